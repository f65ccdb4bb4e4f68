set_option maxHeartbeats 4000000 in
set_option maxRecDepth 100000 in
theorem c_PR_write (l : Launch) (D : va_G) (cI cZ : ClassId) (a_p0 a_text a_text_letters z_hall z_now z_trial z_hand z_acts z_slots z_seen : Nat) (i1 : Int32) (v_actCount : Int32) (v_slotsKept : Int32) (v_seed : Int64) (v_text_length : Int32) (v_text_letters : Nat → Int32) (res : Int32 × Int32 × (Nat → Int32)) (hf : f_PR_write i1 v_text_length v_text_letters = some res) : CtI l y_PR_write b_PR_write 2 (some .int) 1 D cI cZ [.ref a_p0, .int i1] (cs_PR_write cI cZ a_p0 a_text a_text_letters z_hall z_now z_trial z_hand z_acts z_slots z_seen v_actCount v_slotsKept v_seed v_text_length v_text_letters) res.1 (cs_PR_write cI cZ a_p0 a_text a_text_letters z_hall z_now z_trial z_hand z_acts z_slots z_seen v_actCount v_slotsKept v_seed res.2.1 res.2.2) := by
  refine CtI_mk (by decide) (Nat.le_of_ble_eq_true rfl) ?_
  intro p e s m args below meth c A Q hC hA hP hD RET ls hl
  have hC : Cx p s m args meth c b_PR_write 2 R_PR D cI cZ := hC
  have hl : lv_has ls 2 [(0, .ref a_p0), (1, .int i1)] := hl
  obtain ⟨hx, hb, hml, hown, hts, hlk, hKK⟩ := id hC
  have hS : va_S A s.heap s.heap [] := va_S.rf
  have B_11 : ∀  (v_text_length : Int32) (v_text_letters : Nat → Int32) (H : Heap) (locs : List Loc) (ls : Array Slot), va_P D classes (cs_PR_write cI cZ a_p0 a_text a_text_letters z_hall z_now z_trial z_hand z_acts z_slots z_seen v_actCount v_slotsKept v_seed v_text_length v_text_letters) H → va_D A (cs_PR_write cI cZ a_p0 a_text a_text_letters z_hall z_now z_trial z_hand z_acts z_slots z_seen v_actCount v_slotsKept v_seed v_text_length v_text_letters) → va_S A s.heap H locs → lv_has ls 2 [] → f_PR_write_11   v_text_length v_text_letters = some res → W p l e (rm_ 1 (40 * 1)) s m args below meth c H locs 0 0 Q (F0 m 11 ls []) := by
    intro  v_text_length v_text_letters H locs ls hP hD hS hl hf
    unfold f_PR_write_11 at hf
    refine lv_bipush (v := (-2)) hx hb d_PR_write_11 (by decide) ?_
    have hr := Option.some.inj hf
    exact RET _ _ _ _ _ _ rfl (congrArg (fun r : Int32 × Int32 × (Nat → Int32) => r.1) hr) (congrArg (fun r : Int32 × Int32 × (Nat → Int32) => (cs_PR_write cI cZ a_p0 a_text a_text_letters z_hall z_now z_trial z_hand z_acts z_slots z_seen v_actCount v_slotsKept v_seed r.2.1 r.2.2)) hr) hP hD hS d_PR_write_13
  have B_37 : ∀  (w0 : Int32) (v_text_length : Int32) (v_text_letters : Nat → Int32) (H : Heap) (locs : List Loc) (ls : Array Slot), va_P D classes (cs_PR_write cI cZ a_p0 a_text a_text_letters z_hall z_now z_trial z_hand z_acts z_slots z_seen v_actCount v_slotsKept v_seed v_text_length v_text_letters) H → va_D A (cs_PR_write cI cZ a_p0 a_text a_text_letters z_hall z_now z_trial z_hand z_acts z_slots z_seen v_actCount v_slotsKept v_seed v_text_length v_text_letters) → va_S A s.heap H locs → lv_has ls 2 [] → f_PR_write_37   w0 v_text_length v_text_letters = some res → W p l e (rm_ 1 (40 * 1)) s m args below meth c H locs 0 0 Q (F0 m 37 ls [.int w0]) := by
    intro  w0 v_text_length v_text_letters H locs ls hP hD hS hl hf
    unfold f_PR_write_37 at hf
    have hr := Option.some.inj hf
    exact RET _ _ _ _ _ _ rfl (congrArg (fun r : Int32 × Int32 × (Nat → Int32) => r.1) hr) (congrArg (fun r : Int32 × Int32 × (Nat → Int32) => (cs_PR_write cI cZ a_p0 a_text a_text_letters z_hall z_now z_trial z_hand z_acts z_slots z_seen v_actCount v_slotsKept v_seed r.2.1 r.2.2)) hr) hP hD hS d_PR_write_37
  unfold f_PR_write at hf
  have E : ∀ (H : Heap) (locs : List Loc), va_P D classes (cs_PR_write cI cZ a_p0 a_text a_text_letters z_hall z_now z_trial z_hand z_acts z_slots z_seen v_actCount v_slotsKept v_seed v_text_length v_text_letters) H → va_S A s.heap H locs → W p l e (rm_ 1 (40 * 1)) s m args below meth c H locs 0 0 Q (F0 m 0 ls []) := by
    intro H locs hP hS
    refine lv_iload_n hx hb d_PR_write_0 rfl (lv_at hl 1 rfl) ?_
    refine lv_if_lt (tgt := 11) hx hb d_PR_write_1 (by decide) (fun c1 => ?_) (fun c1 => ?_)
    · have hf := o_pos c1 hf
      exact B_11 v_text_length v_text_letters _ _ _ hP hD hS (lv_sub hl [] rfl) hf
    · have hf := o_neg c1 hf
      refine lv_iload_n hx hb d_PR_write_4 rfl (lv_at hl 1 rfl) ?_
      refine lv_sipush (v := 255) hx hb d_PR_write_5 (by decide) ?_
      refine lv_icmp_le (tgt := 14) hx hb d_PR_write_8 (by decide) (fun c2 => ?_) (fun c2 => ?_)
      · have hf := o_pos c2 hf
        refine lv_aload_n hx hb d_PR_write_14 rfl (lv_at hl 0 rfl) ?_
        refine gf_PR_12 hC hP 0 rfl rfl d_PR_write_15 ?_
        refine lv_iload_n hx hb d_PR_write_18 rfl (lv_at hl 1 rfl) ?_
        obtain ⟨r3, h4, hf⟩ := o_bind hf
        refine cVi (rest := []) (wr := [(a_p0, .inr (6, [.ref a_text, .ref z_hall, .ref z_now, .ref z_trial, .ref z_hand, .ref z_acts, .ref z_slots, .ref z_seen, .int v_actCount, .int v_slotsKept, .long v_seed]))]) (wn := (cs_PR_write cI cZ a_p0 a_text a_text_letters z_hall z_now z_trial z_hand z_acts z_slots z_seen v_actCount v_slotsKept v_seed r3.2.1 r3.2.2)) (c_Text_append l D cI cZ a_text a_text_letters i1 v_text_length v_text_letters r3 h4) hC hA hP hD hS hl.1 cw_PR_70 1 rfl rfl rfl ⟨Nat.le_of_ble_eq_true rfl, Nat.le_of_ble_eq_true rfl⟩ rfl rfl (Nat.le_of_ble_eq_true rfl) d_PR_write_19 ⟨Nat.zero_le _, Nat.zero_le _⟩ [1, 2] [0] [0, 1, 2] (by decide) (Cut_mk rfl rfl (by decide) (by decide) (by decide) rfl) (fun H locs hP hD hS => ?_)
        refine lv_if_eq (tgt := 35) hx hb d_PR_write_22 (by decide) (fun c5 => ?_) (fun c5 => ?_)
        · have hf := o_pos c5 hf
          refine lv_bipush (v := (-4)) hx hb d_PR_write_35 (by decide) ?_
          exact B_37 ((-4)) r3.2.1 r3.2.2 _ _ _ hP hD hS (lv_sub hl [] rfl) hf
        · have hf := o_neg c5 hf
          refine lv_aload_n hx hb d_PR_write_25 rfl (lv_at hl 0 rfl) ?_
          refine gf_PR_12 hC hP 0 rfl rfl d_PR_write_26 ?_
          refine gf_PR_74 hC hP 1 rfl rfl d_PR_write_29 ?_
          refine lv_goto (tgt := 37) hx hb d_PR_write_32 (by decide) ?_
          exact B_37 r3.2.1 r3.2.1 r3.2.2 _ _ _ hP hD hS (lv_sub hl [] rfl) hf
      · have hf := o_neg c2 hf
        exact B_11 v_text_length v_text_letters _ _ _ hP hD hS (lv_sub hl [] rfl) hf
  exact E _ _ hP hS
set_option maxHeartbeats 4000000 in
set_option maxRecDepth 100000 in
theorem c_PR_wipe (l : Launch) (D : va_G) (cI cZ : ClassId) (a_p0 a_text z_hall z_now z_trial z_hand z_acts z_slots z_seen z_text_letters : Nat) (v_actCount : Int32) (v_slotsKept : Int32) (v_seed : Int64) (v_text_length : Int32) (res : Int32 × Int32) (hf : f_PR_wipe v_text_length = some res) : CtI l y_PR_wipe b_PR_wipe 2 (some .int) 0 D cI cZ [.ref a_p0] (cs_PR_wipe cI cZ a_p0 a_text z_hall z_now z_trial z_hand z_acts z_slots z_seen z_text_letters v_actCount v_slotsKept v_seed v_text_length) res.1 (cs_PR_wipe cI cZ a_p0 a_text z_hall z_now z_trial z_hand z_acts z_slots z_seen z_text_letters v_actCount v_slotsKept v_seed res.2) := by
  refine CtI_mk (by decide) (Nat.le_of_ble_eq_true rfl) ?_
  intro p e s m args below meth c A Q hC hA hP hD RET ls hl
  have hC : Cx p s m args meth c b_PR_wipe 2 R_PR D cI cZ := hC
  have hl : lv_has ls 2 [(0, .ref a_p0)] := hl
  obtain ⟨hx, hb, hml, hown, hts, hlk, hKK⟩ := id hC
  have hS : va_S A s.heap s.heap [] := va_S.rf
  unfold f_PR_wipe at hf
  have E : ∀ (H : Heap) (locs : List Loc), va_P D classes (cs_PR_wipe cI cZ a_p0 a_text z_hall z_now z_trial z_hand z_acts z_slots z_seen z_text_letters v_actCount v_slotsKept v_seed v_text_length) H → va_S A s.heap H locs → W p l e (rm_ 0 (40 * 0)) s m args below meth c H locs 0 0 Q (F0 m 0 ls []) := by
    intro H locs hP hS
    refine lv_aload_n hx hb d_PR_wipe_0 rfl (lv_at hl 0 rfl) ?_
    refine gf_PR_12 hC hP 0 rfl rfl d_PR_wipe_1 ?_
    refine gf_PR_74 hC hP 1 rfl rfl d_PR_wipe_4 ?_
    refine lv_istore_n (lv' := [(1, .int v_text_length), (0, .ref a_p0)]) hx hb d_PR_wipe_7 rfl hl (by decide) rfl (fun ls hl => ?_)
    refine lv_aload_n hx hb d_PR_wipe_8 rfl (lv_at hl 1 rfl) ?_
    refine gf_PR_12 hC hP 0 rfl rfl d_PR_wipe_9 ?_
    refine lv_iconst (v := 0) hx hb d_PR_wipe_12 (by decide) ?_
    refine pf_PR_74 hC hP hD hS 1 rfl (Nat.le_of_ble_eq_true rfl) d_PR_wipe_13 (fun H locs hP hD hS => ?_)
    have hP : va_P D classes (cs_PR_wipe cI cZ a_p0 a_text z_hall z_now z_trial z_hand z_acts z_slots z_seen z_text_letters v_actCount v_slotsKept v_seed 0) H := hP
    have hD : va_D A (cs_PR_wipe cI cZ a_p0 a_text z_hall z_now z_trial z_hand z_acts z_slots z_seen z_text_letters v_actCount v_slotsKept v_seed 0) := hD
    refine lv_iload_n hx hb d_PR_wipe_16 rfl (lv_at hl 0 rfl) ?_
    have hr := Option.some.inj hf
    exact RET _ _ _ _ _ _ rfl (congrArg (fun r : Int32 × Int32 => r.1) hr) (congrArg (fun r : Int32 × Int32 => (cs_PR_wipe cI cZ a_p0 a_text z_hall z_now z_trial z_hand z_acts z_slots z_seen z_text_letters v_actCount v_slotsKept v_seed r.2)) hr) hP hD hS d_PR_wipe_17
  exact E _ _ hP hS
set_option maxHeartbeats 4000000 in
set_option maxRecDepth 100000 in
theorem c_PR_fault (l : Launch) (D : va_G) (cI cZ : ClassId) (a_p0 a_text a_text_letters z_hall z_now z_trial z_hand z_acts z_slots z_seen : Nat) (v_actCount : Int32) (v_slotsKept : Int32) (v_seed : Int64) (v_text_length : Int32) (v_text_letters : Nat → Int32) (res : Int32) (hf : f_PR_fault v_text_length v_text_letters = some res) : CtI l y_PR_fault b_PR_fault 1 (some .int) 2 D cI cZ [.ref a_p0] (cs_PR_fault cI cZ a_p0 a_text a_text_letters z_hall z_now z_trial z_hand z_acts z_slots z_seen v_actCount v_slotsKept v_seed v_text_length v_text_letters) res (cs_PR_fault cI cZ a_p0 a_text a_text_letters z_hall z_now z_trial z_hand z_acts z_slots z_seen v_actCount v_slotsKept v_seed v_text_length v_text_letters) := by
  refine CtI_mk (by decide) (Nat.le_of_ble_eq_true rfl) ?_
  intro p e s m args below meth c A Q hC hA hP hD RET ls hl
  have hC : Cx p s m args meth c b_PR_fault 1 R_PR D cI cZ := hC
  have hl : lv_has ls 1 [(0, .ref a_p0)] := hl
  obtain ⟨hx, hb, hml, hown, hts, hlk, hKK⟩ := id hC
  have hS : va_S A s.heap s.heap [] := va_S.rf
  unfold f_PR_fault at hf
  have E : ∀ (H : Heap) (locs : List Loc), va_P D classes (cs_PR_fault cI cZ a_p0 a_text a_text_letters z_hall z_now z_trial z_hand z_acts z_slots z_seen v_actCount v_slotsKept v_seed v_text_length v_text_letters) H → va_S A s.heap H locs → W p l e (rm_ 2 (40 * 2)) s m args below meth c H locs 0 0 Q (F0 m 0 ls []) := by
    intro H locs hP hS
    refine lv_aload_n hx hb d_PR_fault_0 rfl (lv_at hl 0 rfl) ?_
    refine gf_PR_12 hC hP 0 rfl rfl d_PR_fault_1 ?_
    obtain ⟨r1, h2, hf⟩ := o_bind hf
    refine cVi (rest := []) (wr := [(a_p0, .inr (6, [.ref a_text, .ref z_hall, .ref z_now, .ref z_trial, .ref z_hand, .ref z_acts, .ref z_slots, .ref z_seen, .int v_actCount, .int v_slotsKept, .long v_seed]))]) (wn := (cs_PR_fault cI cZ a_p0 a_text a_text_letters z_hall z_now z_trial z_hand z_acts z_slots z_seen v_actCount v_slotsKept v_seed v_text_length v_text_letters)) (c_Text_firstFault l D cI cZ a_text a_text_letters v_text_length v_text_letters r1 h2) hC hA hP hD hS hl.1 cw_PR_77 1 rfl rfl rfl ⟨Nat.le_of_ble_eq_true rfl, Nat.le_of_ble_eq_true rfl⟩ rfl rfl (Nat.le_of_ble_eq_true rfl) d_PR_fault_4 ⟨Nat.zero_le _, Nat.zero_le _⟩ [1, 2] [0] [0, 1, 2] (by decide) (Cut_mk rfl rfl (by decide) (by decide) (by decide) rfl) (fun H locs hP hD hS => ?_)
    have hr := Option.some.inj hf
    exact RET _ _ _ _ _ _ rfl (congrArg (fun r : Int32 => r) hr) rfl hP hD hS d_PR_fault_7
  exact E _ _ hP hS
set_option maxHeartbeats 4000000 in
set_option maxRecDepth 100000 in
theorem c_PR_hall (l : Launch) (D : va_G) (cI cZ : ClassId) (a_p0 a_text a_text_letters a_hall a_hall_layers a_hall_kinds a_hall_patiences a_hall_wanted a_now a_now_off a_now_waited z_trial z_hand z_acts z_slots z_seen : Nat) (v_actCount : Int32) (v_slotsKept : Int32) (v_seed : Int64) (v_text_length : Int32) (v_text_letters : Nat → Int32) (v_hall_count : Int32) (v_hall_layers : Nat → Int32) (v_hall_kinds : Nat → Int32) (v_hall_patiences : Nat → Int32) (v_hall_wanted : Nat → Int32) (v_now_nights : Int32) (v_now_off : Nat → Int32) (v_now_waited : Nat → Int32) (res : Int32 × Int32 × Int32 × Int32 × (Nat → Int32) × (Nat → Int32) × (Nat → Int32) × (Nat → Int32) × Int32 × (Nat → Int32) × (Nat → Int32)) (hf : f_PR_hall v_text_length v_text_letters v_actCount v_slotsKept v_hall_count v_hall_layers v_hall_kinds v_hall_patiences v_hall_wanted v_now_nights v_now_off v_now_waited = some res) : CtI l y_PR_hall b_PR_hall 1 (some .int) 2 D cI cZ [.ref a_p0] (cs_PR_hall cI cZ a_p0 a_text a_text_letters a_hall a_hall_layers a_hall_kinds a_hall_patiences a_hall_wanted a_now a_now_off a_now_waited z_trial z_hand z_acts z_slots z_seen v_actCount v_slotsKept v_seed v_text_length v_text_letters v_hall_count v_hall_layers v_hall_kinds v_hall_patiences v_hall_wanted v_now_nights v_now_off v_now_waited) res.1 (cs_PR_hall cI cZ a_p0 a_text a_text_letters a_hall a_hall_layers a_hall_kinds a_hall_patiences a_hall_wanted a_now a_now_off a_now_waited z_trial z_hand z_acts z_slots z_seen res.2.1 res.2.2.1 v_seed v_text_length v_text_letters res.2.2.2.1 res.2.2.2.2.1 res.2.2.2.2.2.1 res.2.2.2.2.2.2.1 res.2.2.2.2.2.2.2.1 res.2.2.2.2.2.2.2.2.1 res.2.2.2.2.2.2.2.2.2.1 res.2.2.2.2.2.2.2.2.2.2) := by
  refine CtI_mk (by decide) (Nat.le_of_ble_eq_true rfl) ?_
  intro p e s m args below meth c A Q hC hA hP hD RET ls hl
  have hC : Cx p s m args meth c b_PR_hall 1 R_PR D cI cZ := hC
  have hl : lv_has ls 1 [(0, .ref a_p0)] := hl
  obtain ⟨hx, hb, hml, hown, hts, hlk, hKK⟩ := id hC
  have hS : va_S A s.heap s.heap [] := va_S.rf
  unfold f_PR_hall at hf
  have E : ∀ (H : Heap) (locs : List Loc), va_P D classes (cs_PR_hall cI cZ a_p0 a_text a_text_letters a_hall a_hall_layers a_hall_kinds a_hall_patiences a_hall_wanted a_now a_now_off a_now_waited z_trial z_hand z_acts z_slots z_seen v_actCount v_slotsKept v_seed v_text_length v_text_letters v_hall_count v_hall_layers v_hall_kinds v_hall_patiences v_hall_wanted v_now_nights v_now_off v_now_waited) H → va_S A s.heap H locs → W p l e (rm_ 2 (40 * 2)) s m args below meth c H locs 0 0 Q (F0 m 0 ls []) := by
    intro H locs hP hS
    refine lv_aload_n hx hb d_PR_hall_0 rfl (lv_at hl 0 rfl) ?_
    refine gf_PR_12 hC hP 0 rfl rfl d_PR_hall_1 ?_
    obtain ⟨r1, h2, hf⟩ := o_bind hf
    refine cVi (rest := []) (wr := [(a_p0, .inr (6, [.ref a_text, .ref a_hall, .ref a_now, .ref z_trial, .ref z_hand, .ref z_acts, .ref z_slots, .ref z_seen, .int v_actCount, .int v_slotsKept, .long v_seed])), (a_hall, .inr (0, [.ref a_hall_layers, .ref a_hall_kinds, .ref a_hall_patiences, .ref a_hall_wanted, .int v_hall_count])), (a_hall_layers, .inl (cI, 12, .inl v_hall_layers)), (a_hall_kinds, .inl (cI, 5, .inl v_hall_kinds)), (a_hall_patiences, .inl (cI, 5, .inl v_hall_patiences)), (a_hall_wanted, .inl (cI, 20, .inl v_hall_wanted)), (a_now, .inr (2, [.ref a_now_off, .ref a_now_waited, .int v_now_nights])), (a_now_off, .inl (cI, 4, .inl v_now_off)), (a_now_waited, .inl (cI, 5, .inl v_now_waited))]) (wn := (cs_PR_hall cI cZ a_p0 a_text a_text_letters a_hall a_hall_layers a_hall_kinds a_hall_patiences a_hall_wanted a_now a_now_off a_now_waited z_trial z_hand z_acts z_slots z_seen v_actCount v_slotsKept v_seed v_text_length v_text_letters v_hall_count v_hall_layers v_hall_kinds v_hall_patiences v_hall_wanted v_now_nights v_now_off v_now_waited)) (c_Text_firstFault l D cI cZ a_text a_text_letters v_text_length v_text_letters r1 h2) hC hA hP hD hS hl.1 cw_PR_77 1 rfl rfl rfl ⟨Nat.le_of_ble_eq_true rfl, Nat.le_of_ble_eq_true rfl⟩ rfl rfl (Nat.le_of_ble_eq_true rfl) d_PR_hall_4 ⟨Nat.zero_le _, Nat.zero_le _⟩ [1, 2] [0, 3, 4, 5, 6, 7, 8, 9, 10] [0, 9, 10, 1, 2, 3, 4, 5, 6, 7, 8] (by decide) (Cut_mk rfl rfl (by decide) (by decide) (by decide) rfl) (fun H locs hP hD hS => ?_)
    refine lv_bipush (v := (-9)) hx hb d_PR_hall_7 (by decide) ?_
    refine lv_icmp_eq (tgt := 15) hx hb d_PR_hall_9 (by decide) (fun c3 => ?_) (fun c3 => ?_)
    · have hf := o_pos c3 hf
      refine lv_aload_n hx hb d_PR_hall_15 rfl (lv_at hl 0 rfl) ?_
      refine gf_PR_19 hC hP 0 rfl rfl d_PR_hall_16 ?_
      refine lv_aload_n hx hb d_PR_hall_19 rfl (lv_at hl 0 rfl) ?_
      refine gf_PR_12 hC hP 0 rfl rfl d_PR_hall_20 ?_
      obtain ⟨r4, h5, hf⟩ := o_bind hf
      refine cVv (rest := []) (wr := [(a_p0, .inr (6, [.ref a_text, .ref a_hall, .ref a_now, .ref z_trial, .ref z_hand, .ref z_acts, .ref z_slots, .ref z_seen, .int v_actCount, .int v_slotsKept, .long v_seed])), (a_now, .inr (2, [.ref a_now_off, .ref a_now_waited, .int v_now_nights])), (a_now_off, .inl (cI, 4, .inl v_now_off)), (a_now_waited, .inl (cI, 5, .inl v_now_waited))]) (wn := (cs_PR_hall cI cZ a_p0 a_text a_text_letters a_hall a_hall_layers a_hall_kinds a_hall_patiences a_hall_wanted a_now a_now_off a_now_waited z_trial z_hand z_acts z_slots z_seen v_actCount v_slotsKept v_seed v_text_length v_text_letters r4.1 r4.2.1 r4.2.2.1 r4.2.2.2.1 r4.2.2.2.2 v_now_nights v_now_off v_now_waited)) (c_Hall_read l D cI cZ a_hall a_hall_layers a_hall_kinds a_hall_patiences a_hall_wanted a_text a_text_letters v_hall_count v_hall_layers v_hall_kinds v_hall_patiences v_hall_wanted v_text_length v_text_letters r4 h5) hC hA hP hD hS hl.1 cw_PR_81 3 rfl rfl rfl ⟨Nat.le_of_ble_eq_true rfl, Nat.le_of_ble_eq_true rfl⟩ rfl rfl (Nat.le_of_ble_eq_true rfl) d_PR_hall_23 ⟨Nat.zero_le _, Nat.zero_le _⟩ [3, 4, 5, 6, 7, 1, 2] [0, 8, 9, 10] [0, 9, 10, 4, 5, 6, 7, 8, 1, 2, 3] (by decide) (Cut_mk rfl rfl (by decide) (by decide) (by decide) rfl) (fun H locs hP hD hS => ?_)
      refine lv_aload_n hx hb d_PR_hall_26 rfl (lv_at hl 0 rfl) ?_
      refine gf_PR_26 hC hP 0 rfl rfl d_PR_hall_27 ?_
      obtain ⟨r6, h7, hf⟩ := o_bind hf
      refine cVv (rest := []) (wr := [(a_p0, .inr (6, [.ref a_text, .ref a_hall, .ref a_now, .ref z_trial, .ref z_hand, .ref z_acts, .ref z_slots, .ref z_seen, .int v_actCount, .int v_slotsKept, .long v_seed])), (a_text, .inr (5, [.ref a_text_letters, .int v_text_length])), (a_text_letters, .inl (cI, 48, .inl v_text_letters)), (a_hall, .inr (0, [.ref a_hall_layers, .ref a_hall_kinds, .ref a_hall_patiences, .ref a_hall_wanted, .int r4.1])), (a_hall_layers, .inl (cI, 12, .inl r4.2.1)), (a_hall_kinds, .inl (cI, 5, .inl r4.2.2.1)), (a_hall_patiences, .inl (cI, 5, .inl r4.2.2.2.1)), (a_hall_wanted, .inl (cI, 20, .inl r4.2.2.2.2))]) (wn := (cs_PR_hall cI cZ a_p0 a_text a_text_letters a_hall a_hall_layers a_hall_kinds a_hall_patiences a_hall_wanted a_now a_now_off a_now_waited z_trial z_hand z_acts z_slots z_seen v_actCount v_slotsKept v_seed v_text_length v_text_letters r4.1 r4.2.1 r4.2.2.1 r4.2.2.2.1 r4.2.2.2.2 r6.1 r6.2.1 r6.2.2)) (c_Scene_empty l D cI cZ a_now a_now_off a_now_waited v_now_nights v_now_off v_now_waited r6 h7) hC hA hP hD hS hl.1 cw_PR_85 8 rfl rfl rfl ⟨Nat.le_of_ble_eq_true rfl, Nat.le_of_ble_eq_true rfl⟩ rfl rfl (Nat.le_of_ble_eq_true rfl) d_PR_hall_30 ⟨Nat.zero_le _, Nat.zero_le _⟩ [8, 9, 10] [0, 1, 2, 3, 4, 5, 6, 7] [0, 1, 2, 3, 4, 5, 6, 7, 8, 9, 10] (by decide) (Cut_mk rfl rfl (by decide) (by decide) (by decide) rfl) (fun H locs hP hD hS => ?_)
      refine lv_aload_n hx hb d_PR_hall_33 rfl (lv_at hl 0 rfl) ?_
      refine lv_iconst (v := 0) hx hb d_PR_hall_34 (by decide) ?_
      refine pf_PR_59 hC hP hD hS 0 rfl (Nat.le_of_ble_eq_true rfl) d_PR_hall_35 (fun H locs hP hD hS => ?_)
      have hP : va_P D classes (cs_PR_hall cI cZ a_p0 a_text a_text_letters a_hall a_hall_layers a_hall_kinds a_hall_patiences a_hall_wanted a_now a_now_off a_now_waited z_trial z_hand z_acts z_slots z_seen 0 v_slotsKept v_seed v_text_length v_text_letters r4.1 r4.2.1 r4.2.2.1 r4.2.2.2.1 r4.2.2.2.2 r6.1 r6.2.1 r6.2.2) H := hP
      have hD : va_D A (cs_PR_hall cI cZ a_p0 a_text a_text_letters a_hall a_hall_layers a_hall_kinds a_hall_patiences a_hall_wanted a_now a_now_off a_now_waited z_trial z_hand z_acts z_slots z_seen 0 v_slotsKept v_seed v_text_length v_text_letters r4.1 r4.2.1 r4.2.2.1 r4.2.2.2.1 r4.2.2.2.2 r6.1 r6.2.1 r6.2.2) := hD
      refine lv_aload_n hx hb d_PR_hall_38 rfl (lv_at hl 0 rfl) ?_
      refine lv_iconst (v := 0) hx hb d_PR_hall_39 (by decide) ?_
      refine pf_PR_63 hC hP hD hS 0 rfl (Nat.le_of_ble_eq_true rfl) d_PR_hall_40 (fun H locs hP hD hS => ?_)
      have hP : va_P D classes (cs_PR_hall cI cZ a_p0 a_text a_text_letters a_hall a_hall_layers a_hall_kinds a_hall_patiences a_hall_wanted a_now a_now_off a_now_waited z_trial z_hand z_acts z_slots z_seen 0 0 v_seed v_text_length v_text_letters r4.1 r4.2.1 r4.2.2.1 r4.2.2.2.1 r4.2.2.2.2 r6.1 r6.2.1 r6.2.2) H := hP
      have hD : va_D A (cs_PR_hall cI cZ a_p0 a_text a_text_letters a_hall a_hall_layers a_hall_kinds a_hall_patiences a_hall_wanted a_now a_now_off a_now_waited z_trial z_hand z_acts z_slots z_seen 0 0 v_seed v_text_length v_text_letters r4.1 r4.2.1 r4.2.2.1 r4.2.2.2.1 r4.2.2.2.2 r6.1 r6.2.1 r6.2.2) := hD
      refine lv_aload_n hx hb d_PR_hall_43 rfl (lv_at hl 0 rfl) ?_
      refine gf_PR_19 hC hP 0 rfl rfl d_PR_hall_44 ?_
      refine gf_PR_88 hC hP 3 rfl rfl d_PR_hall_47 ?_
      have hr := Option.some.inj hf
      exact RET _ _ _ _ _ _ rfl (congrArg (fun r : Int32 × Int32 × Int32 × Int32 × (Nat → Int32) × (Nat → Int32) × (Nat → Int32) × (Nat → Int32) × Int32 × (Nat → Int32) × (Nat → Int32) => r.1) hr) (congrArg (fun r : Int32 × Int32 × Int32 × Int32 × (Nat → Int32) × (Nat → Int32) × (Nat → Int32) × (Nat → Int32) × Int32 × (Nat → Int32) × (Nat → Int32) => (cs_PR_hall cI cZ a_p0 a_text a_text_letters a_hall a_hall_layers a_hall_kinds a_hall_patiences a_hall_wanted a_now a_now_off a_now_waited z_trial z_hand z_acts z_slots z_seen r.2.1 r.2.2.1 v_seed v_text_length v_text_letters r.2.2.2.1 r.2.2.2.2.1 r.2.2.2.2.2.1 r.2.2.2.2.2.2.1 r.2.2.2.2.2.2.2.1 r.2.2.2.2.2.2.2.2.1 r.2.2.2.2.2.2.2.2.2.1 r.2.2.2.2.2.2.2.2.2.2)) hr) hP hD hS d_PR_hall_50
    · have hf := o_neg c3 hf
      refine lv_bipush (v := (-3)) hx hb d_PR_hall_12 (by decide) ?_
      have hr := Option.some.inj hf
      exact RET _ _ _ _ _ _ rfl (congrArg (fun r : Int32 × Int32 × Int32 × Int32 × (Nat → Int32) × (Nat → Int32) × (Nat → Int32) × (Nat → Int32) × Int32 × (Nat → Int32) × (Nat → Int32) => r.1) hr) (congrArg (fun r : Int32 × Int32 × Int32 × Int32 × (Nat → Int32) × (Nat → Int32) × (Nat → Int32) × (Nat → Int32) × Int32 × (Nat → Int32) × (Nat → Int32) => (cs_PR_hall cI cZ a_p0 a_text a_text_letters a_hall a_hall_layers a_hall_kinds a_hall_patiences a_hall_wanted a_now a_now_off a_now_waited z_trial z_hand z_acts z_slots z_seen r.2.1 r.2.2.1 v_seed v_text_length v_text_letters r.2.2.2.1 r.2.2.2.2.1 r.2.2.2.2.2.1 r.2.2.2.2.2.2.1 r.2.2.2.2.2.2.2.1 r.2.2.2.2.2.2.2.2.1 r.2.2.2.2.2.2.2.2.2.1 r.2.2.2.2.2.2.2.2.2.2)) hr) hP hD hS d_PR_hall_14
  exact E _ _ hP hS
set_option maxHeartbeats 4000000 in
set_option maxRecDepth 100000 in
theorem c_PR_hailedIn (l : Launch) (D : va_G) (cI cZ : ClassId) (a_p0 a_hall a_hall_layers a_hall_kinds a_hall_wanted a_hand a_hand_shown a_p1 a_p1_off z_text z_now z_trial z_acts z_slots z_seen z_hall_patiences z_p1_waited : Nat) (v_actCount : Int32) (v_slotsKept : Int32) (v_seed : Int64) (v_hall_count : Int32) (v_hall_layers : Nat → Int32) (v_hall_kinds : Nat → Int32) (v_hall_wanted : Nat → Int32) (v_hand_shown : Nat → Int32) (v_p1_nights : Int32) (v_p1_off : Nat → Int32) (res : Int32 × (Nat → Int32)) (hf : f_PR_hailedIn v_hall_count v_hall_layers v_hall_kinds v_hall_wanted v_p1_off v_hand_shown = some res) : CtI l y_PR_hailedIn b_PR_hailedIn 2 (some .int) 3 D cI cZ [.ref a_p0, .ref a_p1] (cs_PR_hailedIn cI cZ a_p0 a_hall a_hall_layers a_hall_kinds a_hall_wanted a_hand a_hand_shown a_p1 a_p1_off z_text z_now z_trial z_acts z_slots z_seen z_hall_patiences z_p1_waited v_actCount v_slotsKept v_seed v_hall_count v_hall_layers v_hall_kinds v_hall_wanted v_hand_shown v_p1_nights v_p1_off) res.1 (cs_PR_hailedIn cI cZ a_p0 a_hall a_hall_layers a_hall_kinds a_hall_wanted a_hand a_hand_shown a_p1 a_p1_off z_text z_now z_trial z_acts z_slots z_seen z_hall_patiences z_p1_waited v_actCount v_slotsKept v_seed v_hall_count v_hall_layers v_hall_kinds v_hall_wanted res.2 v_p1_nights v_p1_off) := by
  refine CtI_mk (by decide) (Nat.le_of_ble_eq_true rfl) ?_
  intro p e s m args below meth c A Q hC hA hP hD RET ls hl
  have hC : Cx p s m args meth c b_PR_hailedIn 2 R_PR D cI cZ := hC
  have hl : lv_has ls 2 [(0, .ref a_p0), (1, .ref a_p1)] := hl
  obtain ⟨hx, hb, hml, hown, hts, hlk, hKK⟩ := id hC
  have hS : va_S A s.heap s.heap [] := va_S.rf
  unfold f_PR_hailedIn at hf
  have E : ∀ (H : Heap) (locs : List Loc), va_P D classes (cs_PR_hailedIn cI cZ a_p0 a_hall a_hall_layers a_hall_kinds a_hall_wanted a_hand a_hand_shown a_p1 a_p1_off z_text z_now z_trial z_acts z_slots z_seen z_hall_patiences z_p1_waited v_actCount v_slotsKept v_seed v_hall_count v_hall_layers v_hall_kinds v_hall_wanted v_hand_shown v_p1_nights v_p1_off) H → va_S A s.heap H locs → W p l e (rm_ 3 (40 * 3)) s m args below meth c H locs 0 0 Q (F0 m 0 ls []) := by
    intro H locs hP hS
    refine lv_aload_n hx hb d_PR_hailedIn_0 rfl (lv_at hl 0 rfl) ?_
    refine gf_PR_36 hC hP 0 rfl rfl d_PR_hailedIn_1 ?_
    refine lv_aload_n hx hb d_PR_hailedIn_4 rfl (lv_at hl 0 rfl) ?_
    refine gf_PR_19 hC hP 0 rfl rfl d_PR_hailedIn_5 ?_
    refine lv_aload_n hx hb d_PR_hailedIn_8 rfl (lv_at hl 1 rfl) ?_
    obtain ⟨r1, h2, hf⟩ := o_bind hf
    refine cVv (rest := []) (wr := [(a_p0, .inr (6, [.ref z_text, .ref a_hall, .ref z_now, .ref z_trial, .ref a_hand, .ref z_acts, .ref z_slots, .ref z_seen, .int v_actCount, .int v_slotsKept, .long v_seed])), (a_hall_kinds, .inl (cI, 5, .inl v_hall_kinds)), (a_hall_wanted, .inl (cI, 20, .inl v_hall_wanted))]) (wn := (cs_PR_hailedIn cI cZ a_p0 a_hall a_hall_layers a_hall_kinds a_hall_wanted a_hand a_hand_shown a_p1 a_p1_off z_text z_now z_trial z_acts z_slots z_seen z_hall_patiences z_p1_waited v_actCount v_slotsKept v_seed v_hall_count v_hall_layers v_hall_kinds v_hall_wanted r1 v_p1_nights v_p1_off)) (c_Hand_showAll l D cI cZ a_hand a_hand_shown a_hall a_hall_layers a_p1 a_p1_off a_hall_kinds z_hall_patiences a_hall_wanted z_p1_waited v_hand_shown v_hall_count v_hall_layers v_p1_nights v_p1_off r1 h2) hC hA hP hD hS hl.1 cw_PR_236 5 rfl rfl rfl ⟨Nat.le_of_ble_eq_true rfl, Nat.le_of_ble_eq_true rfl⟩ rfl rfl (Nat.le_of_ble_eq_true rfl) d_PR_hailedIn_9 ⟨Nat.zero_le _, Nat.zero_le _⟩ [5, 6, 1, 2, 7, 8] [0, 3, 4] [0, 5, 6, 1, 2, 3, 4, 7, 8] (by decide) (Cut_mk rfl rfl (by decide) (by decide) (by decide) rfl) (fun H locs hP hD hS => ?_)
    refine lv_aload_n hx hb d_PR_hailedIn_12 rfl (lv_at hl 0 rfl) ?_
    refine gf_PR_36 hC hP 0 rfl rfl d_PR_hailedIn_13 ?_
    refine lv_aload_n hx hb d_PR_hailedIn_16 rfl (lv_at hl 0 rfl) ?_
    refine gf_PR_19 hC hP 0 rfl rfl d_PR_hailedIn_17 ?_
    obtain ⟨r3, h4, hf⟩ := o_bind hf
    refine cVi (rest := []) (wr := [(a_p0, .inr (6, [.ref z_text, .ref a_hall, .ref z_now, .ref z_trial, .ref a_hand, .ref z_acts, .ref z_slots, .ref z_seen, .int v_actCount, .int v_slotsKept, .long v_seed])), (a_hall_layers, .inl (cI, 12, .inl v_hall_layers)), (a_p1, .inr (2, [.ref a_p1_off, .ref z_p1_waited, .int v_p1_nights])), (a_p1_off, .inl (cI, 4, .inl v_p1_off))]) (wn := (cs_PR_hailedIn cI cZ a_p0 a_hall a_hall_layers a_hall_kinds a_hall_wanted a_hand a_hand_shown a_p1 a_p1_off z_text z_now z_trial z_acts z_slots z_seen z_hall_patiences z_p1_waited v_actCount v_slotsKept v_seed v_hall_count v_hall_layers v_hall_kinds v_hall_wanted r1 v_p1_nights v_p1_off)) (c_Hand_hailed l D cI cZ a_hand a_hand_shown a_hall a_hall_kinds a_hall_wanted a_hall_layers z_hall_patiences r1 v_hall_count v_hall_kinds v_hall_wanted r3 h4) hC hA hP hD hS hl.1 cw_PR_240 5 rfl rfl rfl ⟨Nat.le_of_ble_eq_true rfl, Nat.le_of_ble_eq_true rfl⟩ rfl rfl (Nat.le_of_ble_eq_true rfl) d_PR_hailedIn_20 ⟨Nat.zero_le _, Nat.zero_le _⟩ [5, 6, 1, 3, 4] [0, 2, 7, 8] [0, 6, 1, 7, 8, 4, 5, 2, 3] (by decide) (Cut_mk rfl rfl (by decide) (by decide) (by decide) rfl) (fun H locs hP hD hS => ?_)
    have hr := Option.some.inj hf
    exact RET _ _ _ _ _ _ rfl (congrArg (fun r : Int32 × (Nat → Int32) => r.1) hr) (congrArg (fun r : Int32 × (Nat → Int32) => (cs_PR_hailedIn cI cZ a_p0 a_hall a_hall_layers a_hall_kinds a_hall_wanted a_hand a_hand_shown a_p1 a_p1_off z_text z_now z_trial z_acts z_slots z_seen z_hall_patiences z_p1_waited v_actCount v_slotsKept v_seed v_hall_count v_hall_layers v_hall_kinds v_hall_wanted r.2 v_p1_nights v_p1_off)) hr) hP hD hS d_PR_hailedIn_23
  exact E _ _ hP hS
set_option maxHeartbeats 4000000 in
set_option maxRecDepth 100000 in
theorem c_PR_about (l : Launch) (D : va_G) (cI cZ : ClassId) (a_p0 a_text a_hall a_hall_layers a_hall_kinds a_hall_wanted a_now a_now_off a_now_waited a_hand a_hand_shown a_seen z_trial z_acts z_slots z_text_letters z_hall_patiences z_seen_rows : Nat) (i1 : Int32) (v_actCount : Int32) (v_slotsKept : Int32) (v_seed : Int64) (v_text_length : Int32) (v_hall_count : Int32) (v_hall_layers : Nat → Int32) (v_hall_kinds : Nat → Int32) (v_hall_wanted : Nat → Int32) (v_now_nights : Int32) (v_now_off : Nat → Int32) (v_now_waited : Nat → Int32) (v_hand_shown : Nat → Int32) (v_seen_count : Int32) (res : Int32 × (Nat → Int32)) (hf : f_PR_about i1 v_actCount v_text_length v_hall_count v_hall_layers v_hall_kinds v_hall_wanted v_now_nights v_now_off v_now_waited v_seen_count v_hand_shown = some res) : CtI l y_PR_about b_PR_about 2 (some .int) 4 D cI cZ [.ref a_p0, .int i1] (cs_PR_about cI cZ a_p0 a_text a_hall a_hall_layers a_hall_kinds a_hall_wanted a_now a_now_off a_now_waited a_hand a_hand_shown a_seen z_trial z_acts z_slots z_text_letters z_hall_patiences z_seen_rows v_actCount v_slotsKept v_seed v_text_length v_hall_count v_hall_layers v_hall_kinds v_hall_wanted v_now_nights v_now_off v_now_waited v_hand_shown v_seen_count) res.1 (cs_PR_about cI cZ a_p0 a_text a_hall a_hall_layers a_hall_kinds a_hall_wanted a_now a_now_off a_now_waited a_hand a_hand_shown a_seen z_trial z_acts z_slots z_text_letters z_hall_patiences z_seen_rows v_actCount v_slotsKept v_seed v_text_length v_hall_count v_hall_layers v_hall_kinds v_hall_wanted v_now_nights v_now_off v_now_waited res.2 v_seen_count) := by
  refine CtI_mk (by decide) (Nat.le_of_ble_eq_true rfl) ?_
  intro p e s m args below meth c A Q hC hA hP hD RET ls hl
  have hC : Cx p s m args meth c b_PR_about 2 R_PR D cI cZ := hC
  have hl : lv_has ls 2 [(0, .ref a_p0), (1, .int i1)] := hl
  obtain ⟨hx, hb, hml, hown, hts, hlk, hKK⟩ := id hC
  have hS : va_S A s.heap s.heap [] := va_S.rf
  unfold f_PR_about at hf
  have E : ∀ (H : Heap) (locs : List Loc), va_P D classes (cs_PR_about cI cZ a_p0 a_text a_hall a_hall_layers a_hall_kinds a_hall_wanted a_now a_now_off a_now_waited a_hand a_hand_shown a_seen z_trial z_acts z_slots z_text_letters z_hall_patiences z_seen_rows v_actCount v_slotsKept v_seed v_text_length v_hall_count v_hall_layers v_hall_kinds v_hall_wanted v_now_nights v_now_off v_now_waited v_hand_shown v_seen_count) H → va_S A s.heap H locs → W p l e (rm_ 4 (40 * 4)) s m args below meth c H locs 0 0 Q (F0 m 0 ls []) := by
    intro H locs hP hS
    refine lv_iload_n hx hb d_PR_about_0 rfl (lv_at hl 1 rfl) ?_
    by_cases c1 : i1 = 0
    · have hf := o_pos c1 hf
      refine lv_tableIn (off := 47) (tgt := 48) hx hb d_PR_about_1 (by rw [c1]; decide) (by rw [c1]; decide) (by rw [c1]; rfl) (by decide) ?_
      refine lv_aload_n hx hb d_PR_about_48 rfl (lv_at hl 0 rfl) ?_
      refine gf_PR_19 hC hP 0 rfl rfl d_PR_about_49 ?_
      refine gf_PR_88 hC hP 2 rfl rfl d_PR_about_52 ?_
      have hr := Option.some.inj hf
      exact RET _ _ _ _ _ _ rfl (congrArg (fun r : Int32 × (Nat → Int32) => r.1) hr) (congrArg (fun r : Int32 × (Nat → Int32) => (cs_PR_about cI cZ a_p0 a_text a_hall a_hall_layers a_hall_kinds a_hall_wanted a_now a_now_off a_now_waited a_hand a_hand_shown a_seen z_trial z_acts z_slots z_text_letters z_hall_patiences z_seen_rows v_actCount v_slotsKept v_seed v_text_length v_hall_count v_hall_layers v_hall_kinds v_hall_wanted v_now_nights v_now_off v_now_waited r.2 v_seen_count)) hr) hP hD hS d_PR_about_55
    · have hf := o_neg c1 hf
      by_cases c2 : i1 = 1
      · have hf := o_pos c2 hf
        refine lv_tableIn (off := 55) (tgt := 56) hx hb d_PR_about_1 (by rw [c2]; decide) (by rw [c2]; decide) (by rw [c2]; rfl) (by decide) ?_
        refine lv_aload_n hx hb d_PR_about_56 rfl (lv_at hl 0 rfl) ?_
        refine gf_PR_26 hC hP 0 rfl rfl d_PR_about_57 ?_
        obtain ⟨r3, h4, hf⟩ := o_bind hf
        refine cVi (rest := []) (wr := [(a_p0, .inr (6, [.ref a_text, .ref a_hall, .ref a_now, .ref z_trial, .ref a_hand, .ref z_acts, .ref z_slots, .ref a_seen, .int v_actCount, .int v_slotsKept, .long v_seed])), (a_text, .inr (5, [.ref z_text_letters, .int v_text_length])), (a_hall, .inr (0, [.ref a_hall_layers, .ref a_hall_kinds, .ref z_hall_patiences, .ref a_hall_wanted, .int v_hall_count])), (a_hall_layers, .inl (cI, 12, .inl v_hall_layers)), (a_hall_kinds, .inl (cI, 5, .inl v_hall_kinds)), (a_hall_wanted, .inl (cI, 20, .inl v_hall_wanted)), (a_now_off, .inl (cI, 4, .inl v_now_off)), (a_hand, .inr (1, [.ref a_hand_shown])), (a_hand_shown, .inl (cI, 4, .inl v_hand_shown)), (a_seen, .inr (3, [.ref z_seen_rows, .int v_seen_count]))]) (wn := (cs_PR_about cI cZ a_p0 a_text a_hall a_hall_layers a_hall_kinds a_hall_wanted a_now a_now_off a_now_waited a_hand a_hand_shown a_seen z_trial z_acts z_slots z_text_letters z_hall_patiences z_seen_rows v_actCount v_slotsKept v_seed v_text_length v_hall_count v_hall_layers v_hall_kinds v_hall_wanted v_now_nights v_now_off v_now_waited v_hand_shown v_seen_count)) (c_Scene_waiting l D cI cZ a_now a_now_waited a_now_off v_now_nights v_now_waited r3 h4) hC hA hP hD hS hl.1 cw_PR_91 6 rfl rfl rfl ⟨Nat.le_of_ble_eq_true rfl, Nat.le_of_ble_eq_true rfl⟩ rfl rfl (Nat.le_of_ble_eq_true rfl) d_PR_about_60 ⟨Nat.zero_le _, Nat.zero_le _⟩ [6, 8] [0, 1, 2, 3, 4, 5, 7, 9, 10, 11] [0, 1, 2, 3, 4, 5, 10, 6, 11, 7, 8, 9] (by decide) (Cut_mk rfl rfl (by decide) (by decide) (by decide) rfl) (fun H locs hP hD hS => ?_)
        have hr := Option.some.inj hf
        exact RET _ _ _ _ _ _ rfl (congrArg (fun r : Int32 × (Nat → Int32) => r.1) hr) (congrArg (fun r : Int32 × (Nat → Int32) => (cs_PR_about cI cZ a_p0 a_text a_hall a_hall_layers a_hall_kinds a_hall_wanted a_now a_now_off a_now_waited a_hand a_hand_shown a_seen z_trial z_acts z_slots z_text_letters z_hall_patiences z_seen_rows v_actCount v_slotsKept v_seed v_text_length v_hall_count v_hall_layers v_hall_kinds v_hall_wanted v_now_nights v_now_off v_now_waited r.2 v_seen_count)) hr) hP hD hS d_PR_about_63
      · have hf := o_neg c2 hf
        by_cases c5 : i1 = 2
        · have hf := o_pos c5 hf
          refine lv_tableIn (off := 63) (tgt := 64) hx hb d_PR_about_1 (by rw [c5]; decide) (by rw [c5]; decide) (by rw [c5]; rfl) (by decide) ?_
          refine lv_aload_n hx hb d_PR_about_64 rfl (lv_at hl 0 rfl) ?_
          refine gf_PR_26 hC hP 0 rfl rfl d_PR_about_65 ?_
          obtain ⟨r6, h7, hf⟩ := o_bind hf
          refine cVi (rest := []) (wr := [(a_p0, .inr (6, [.ref a_text, .ref a_hall, .ref a_now, .ref z_trial, .ref a_hand, .ref z_acts, .ref z_slots, .ref a_seen, .int v_actCount, .int v_slotsKept, .long v_seed])), (a_text, .inr (5, [.ref z_text_letters, .int v_text_length])), (a_hall, .inr (0, [.ref a_hall_layers, .ref a_hall_kinds, .ref z_hall_patiences, .ref a_hall_wanted, .int v_hall_count])), (a_hall_layers, .inl (cI, 12, .inl v_hall_layers)), (a_hall_kinds, .inl (cI, 5, .inl v_hall_kinds)), (a_hall_wanted, .inl (cI, 20, .inl v_hall_wanted)), (a_now_off, .inl (cI, 4, .inl v_now_off)), (a_hand, .inr (1, [.ref a_hand_shown])), (a_hand_shown, .inl (cI, 4, .inl v_hand_shown)), (a_seen, .inr (3, [.ref z_seen_rows, .int v_seen_count]))]) (wn := (cs_PR_about cI cZ a_p0 a_text a_hall a_hall_layers a_hall_kinds a_hall_wanted a_now a_now_off a_now_waited a_hand a_hand_shown a_seen z_trial z_acts z_slots z_text_letters z_hall_patiences z_seen_rows v_actCount v_slotsKept v_seed v_text_length v_hall_count v_hall_layers v_hall_kinds v_hall_wanted v_now_nights v_now_off v_now_waited v_hand_shown v_seen_count)) (c_Scene_rank l D cI cZ a_now a_now_waited a_now_off v_now_nights v_now_waited r6 h7) hC hA hP hD hS hl.1 cw_PR_94 6 rfl rfl rfl ⟨Nat.le_of_ble_eq_true rfl, Nat.le_of_ble_eq_true rfl⟩ rfl rfl (Nat.le_of_ble_eq_true rfl) d_PR_about_68 ⟨Nat.zero_le _, Nat.zero_le _⟩ [6, 8] [0, 1, 2, 3, 4, 5, 7, 9, 10, 11] [0, 1, 2, 3, 4, 5, 10, 6, 11, 7, 8, 9] (by decide) (Cut_mk rfl rfl (by decide) (by decide) (by decide) rfl) (fun H locs hP hD hS => ?_)
          have hr := Option.some.inj hf
          exact RET _ _ _ _ _ _ rfl (congrArg (fun r : Int32 × (Nat → Int32) => r.1) hr) (congrArg (fun r : Int32 × (Nat → Int32) => (cs_PR_about cI cZ a_p0 a_text a_hall a_hall_layers a_hall_kinds a_hall_wanted a_now a_now_off a_now_waited a_hand a_hand_shown a_seen z_trial z_acts z_slots z_text_letters z_hall_patiences z_seen_rows v_actCount v_slotsKept v_seed v_text_length v_hall_count v_hall_layers v_hall_kinds v_hall_wanted v_now_nights v_now_off v_now_waited r.2 v_seen_count)) hr) hP hD hS d_PR_about_71
        · have hf := o_neg c5 hf
          by_cases c8 : i1 = 3
          · have hf := o_pos c8 hf
            refine lv_tableIn (off := 71) (tgt := 72) hx hb d_PR_about_1 (by rw [c8]; decide) (by rw [c8]; decide) (by rw [c8]; rfl) (by decide) ?_
            refine lv_aload_n hx hb d_PR_about_72 rfl (lv_at hl 0 rfl) ?_
            refine lv_aload_n hx hb d_PR_about_73 rfl (lv_at hl 0 rfl) ?_
            refine gf_PR_26 hC hP 0 rfl rfl d_PR_about_74 ?_
            obtain ⟨r9, h10, hf⟩ := o_bind hf
            refine cVi (rest := []) (wr := [(a_text, .inr (5, [.ref z_text_letters, .int v_text_length])), (a_now_waited, .inl (cI, 5, .inl v_now_waited)), (a_seen, .inr (3, [.ref z_seen_rows, .int v_seen_count]))]) (wn := (cs_PR_about cI cZ a_p0 a_text a_hall a_hall_layers a_hall_kinds a_hall_wanted a_now a_now_off a_now_waited a_hand a_hand_shown a_seen z_trial z_acts z_slots z_text_letters z_hall_patiences z_seen_rows v_actCount v_slotsKept v_seed v_text_length v_hall_count v_hall_layers v_hall_kinds v_hall_wanted v_now_nights v_now_off v_now_waited r9.2 v_seen_count)) (c_PR_hailedIn l D cI cZ a_p0 a_hall a_hall_layers a_hall_kinds a_hall_wanted a_hand a_hand_shown a_now a_now_off a_text a_now z_trial z_acts z_slots a_seen z_hall_patiences a_now_waited v_actCount v_slotsKept v_seed v_hall_count v_hall_layers v_hall_kinds v_hall_wanted v_hand_shown v_now_nights v_now_off r9 h10) hC hA hP hD hS hl.1 cw_PR_97 0 rfl rfl rfl ⟨Nat.le_of_ble_eq_true rfl, Nat.le_of_ble_eq_true rfl⟩ rfl rfl (Nat.le_of_ble_eq_true rfl) d_PR_about_77 ⟨Nat.zero_le _, Nat.zero_le _⟩ [0, 2, 3, 4, 5, 9, 10, 6, 7] [1, 8, 11] [3, 0, 4, 5, 6, 7, 10, 11, 1, 8, 9, 2] (by decide) (Cut_mk rfl rfl (by decide) (by decide) (by decide) rfl) (fun H locs hP hD hS => ?_)
            have hr := Option.some.inj hf
            exact RET _ _ _ _ _ _ rfl (congrArg (fun r : Int32 × (Nat → Int32) => r.1) hr) (congrArg (fun r : Int32 × (Nat → Int32) => (cs_PR_about cI cZ a_p0 a_text a_hall a_hall_layers a_hall_kinds a_hall_wanted a_now a_now_off a_now_waited a_hand a_hand_shown a_seen z_trial z_acts z_slots z_text_letters z_hall_patiences z_seen_rows v_actCount v_slotsKept v_seed v_text_length v_hall_count v_hall_layers v_hall_kinds v_hall_wanted v_now_nights v_now_off v_now_waited r.2 v_seen_count)) hr) hP hD hS d_PR_about_80
          · have hf := o_neg c8 hf
            by_cases c11 : i1 = 4
            · have hf := o_pos c11 hf
              refine lv_tableIn (off := 80) (tgt := 81) hx hb d_PR_about_1 (by rw [c11]; decide) (by rw [c11]; decide) (by rw [c11]; rfl) (by decide) ?_
              refine lv_aload_n hx hb d_PR_about_81 rfl (lv_at hl 0 rfl) ?_
              refine gf_PR_26 hC hP 0 rfl rfl d_PR_about_82 ?_
              refine gf_PR_101 hC hP 6 rfl rfl d_PR_about_85 ?_
              have hr := Option.some.inj hf
              exact RET _ _ _ _ _ _ rfl (congrArg (fun r : Int32 × (Nat → Int32) => r.1) hr) (congrArg (fun r : Int32 × (Nat → Int32) => (cs_PR_about cI cZ a_p0 a_text a_hall a_hall_layers a_hall_kinds a_hall_wanted a_now a_now_off a_now_waited a_hand a_hand_shown a_seen z_trial z_acts z_slots z_text_letters z_hall_patiences z_seen_rows v_actCount v_slotsKept v_seed v_text_length v_hall_count v_hall_layers v_hall_kinds v_hall_wanted v_now_nights v_now_off v_now_waited r.2 v_seen_count)) hr) hP hD hS d_PR_about_88
            · have hf := o_neg c11 hf
              by_cases c12 : i1 = 5
              · have hf := o_pos c12 hf
                refine lv_tableIn (off := 88) (tgt := 89) hx hb d_PR_about_1 (by rw [c12]; decide) (by rw [c12]; decide) (by rw [c12]; rfl) (by decide) ?_
                refine lv_aload_n hx hb d_PR_about_89 rfl (lv_at hl 0 rfl) ?_
                refine gf_PR_59 hC hP 0 rfl rfl d_PR_about_90 ?_
                have hr := Option.some.inj hf
                exact RET _ _ _ _ _ _ rfl (congrArg (fun r : Int32 × (Nat → Int32) => r.1) hr) (congrArg (fun r : Int32 × (Nat → Int32) => (cs_PR_about cI cZ a_p0 a_text a_hall a_hall_layers a_hall_kinds a_hall_wanted a_now a_now_off a_now_waited a_hand a_hand_shown a_seen z_trial z_acts z_slots z_text_letters z_hall_patiences z_seen_rows v_actCount v_slotsKept v_seed v_text_length v_hall_count v_hall_layers v_hall_kinds v_hall_wanted v_now_nights v_now_off v_now_waited r.2 v_seen_count)) hr) hP hD hS d_PR_about_93
              · have hf := o_neg c12 hf
                by_cases c13 : i1 = 6
                · have hf := o_pos c13 hf
                  refine lv_tableIn (off := 93) (tgt := 94) hx hb d_PR_about_1 (by rw [c13]; decide) (by rw [c13]; decide) (by rw [c13]; rfl) (by decide) ?_
                  refine lv_aload_n hx hb d_PR_about_94 rfl (lv_at hl 0 rfl) ?_
                  refine gf_PR_55 hC hP 0 rfl rfl d_PR_about_95 ?_
                  refine gf_PR_104 hC hP 11 rfl rfl d_PR_about_98 ?_
                  have hr := Option.some.inj hf
                  exact RET _ _ _ _ _ _ rfl (congrArg (fun r : Int32 × (Nat → Int32) => r.1) hr) (congrArg (fun r : Int32 × (Nat → Int32) => (cs_PR_about cI cZ a_p0 a_text a_hall a_hall_layers a_hall_kinds a_hall_wanted a_now a_now_off a_now_waited a_hand a_hand_shown a_seen z_trial z_acts z_slots z_text_letters z_hall_patiences z_seen_rows v_actCount v_slotsKept v_seed v_text_length v_hall_count v_hall_layers v_hall_kinds v_hall_wanted v_now_nights v_now_off v_now_waited r.2 v_seen_count)) hr) hP hD hS d_PR_about_101
                · have hf := o_neg c13 hf
                  by_cases c14 : i1 = 7
                  · have hf := o_pos c14 hf
                    refine lv_tableIn (off := 101) (tgt := 102) hx hb d_PR_about_1 (by rw [c14]; decide) (by rw [c14]; decide) (by rw [c14]; rfl) (by decide) ?_
                    refine lv_aload_n hx hb d_PR_about_102 rfl (lv_at hl 0 rfl) ?_
                    refine gf_PR_12 hC hP 0 rfl rfl d_PR_about_103 ?_
                    refine gf_PR_74 hC hP 1 rfl rfl d_PR_about_106 ?_
                    have hr := Option.some.inj hf
                    exact RET _ _ _ _ _ _ rfl (congrArg (fun r : Int32 × (Nat → Int32) => r.1) hr) (congrArg (fun r : Int32 × (Nat → Int32) => (cs_PR_about cI cZ a_p0 a_text a_hall a_hall_layers a_hall_kinds a_hall_wanted a_now a_now_off a_now_waited a_hand a_hand_shown a_seen z_trial z_acts z_slots z_text_letters z_hall_patiences z_seen_rows v_actCount v_slotsKept v_seed v_text_length v_hall_count v_hall_layers v_hall_kinds v_hall_wanted v_now_nights v_now_off v_now_waited r.2 v_seen_count)) hr) hP hD hS d_PR_about_109
                  · have hf := o_neg c14 hf
                    have ec1 := sw_ne (k := 0) (by decide) c1
                    have ec2 := sw_ne (k := 1) (by decide) c2
                    have ec5 := sw_ne (k := 2) (by decide) c5
                    have ec8 := sw_ne (k := 3) (by decide) c8
                    have ec11 := sw_ne (k := 4) (by decide) c11
                    have ec12 := sw_ne (k := 5) (by decide) c12
                    have ec13 := sw_ne (k := 6) (by decide) c13
                    have ec14 := sw_ne (k := 7) (by decide) c14
                    refine lv_tableOut (tgt := 110) hx hb d_PR_about_1 (by omega) (by decide) ?_
                    refine lv_bipush (v := (-2)) hx hb d_PR_about_110 (by decide) ?_
                    have hr := Option.some.inj hf
                    exact RET _ _ _ _ _ _ rfl (congrArg (fun r : Int32 × (Nat → Int32) => r.1) hr) (congrArg (fun r : Int32 × (Nat → Int32) => (cs_PR_about cI cZ a_p0 a_text a_hall a_hall_layers a_hall_kinds a_hall_wanted a_now a_now_off a_now_waited a_hand a_hand_shown a_seen z_trial z_acts z_slots z_text_letters z_hall_patiences z_seen_rows v_actCount v_slotsKept v_seed v_text_length v_hall_count v_hall_layers v_hall_kinds v_hall_wanted v_now_nights v_now_off v_now_waited r.2 v_seen_count)) hr) hP hD hS d_PR_about_112
  exact E _ _ hP hS
set_option maxHeartbeats 4000000 in
set_option maxRecDepth 100000 in
theorem c_PR_shown (l : Launch) (D : va_G) (cI cZ : ClassId) (a_p0 a_hall a_hall_layers a_now a_now_off z_text z_trial z_hand z_acts z_slots z_seen z_hall_kinds z_hall_patiences z_hall_wanted z_now_waited : Nat) (i1 : Int32) (v_actCount : Int32) (v_slotsKept : Int32) (v_seed : Int64) (v_hall_count : Int32) (v_hall_layers : Nat → Int32) (v_now_nights : Int32) (v_now_off : Nat → Int32) (res : Int32) (hf : f_PR_shown i1 v_hall_layers v_now_off = some res) : CtI l y_PR_shown b_PR_shown 2 (some .int) 2 D cI cZ [.ref a_p0, .int i1] (cs_PR_shown cI cZ a_p0 a_hall a_hall_layers a_now a_now_off z_text z_trial z_hand z_acts z_slots z_seen z_hall_kinds z_hall_patiences z_hall_wanted z_now_waited v_actCount v_slotsKept v_seed v_hall_count v_hall_layers v_now_nights v_now_off) res (cs_PR_shown cI cZ a_p0 a_hall a_hall_layers a_now a_now_off z_text z_trial z_hand z_acts z_slots z_seen z_hall_kinds z_hall_patiences z_hall_wanted z_now_waited v_actCount v_slotsKept v_seed v_hall_count v_hall_layers v_now_nights v_now_off) := by
  refine CtI_mk (by decide) (Nat.le_of_ble_eq_true rfl) ?_
  intro p e s m args below meth c A Q hC hA hP hD RET ls hl
  have hC : Cx p s m args meth c b_PR_shown 2 R_PR D cI cZ := hC
  have hl : lv_has ls 2 [(0, .ref a_p0), (1, .int i1)] := hl
  obtain ⟨hx, hb, hml, hown, hts, hlk, hKK⟩ := id hC
  have hS : va_S A s.heap s.heap [] := va_S.rf
  unfold f_PR_shown at hf
  have E : ∀ (H : Heap) (locs : List Loc), va_P D classes (cs_PR_shown cI cZ a_p0 a_hall a_hall_layers a_now a_now_off z_text z_trial z_hand z_acts z_slots z_seen z_hall_kinds z_hall_patiences z_hall_wanted z_now_waited v_actCount v_slotsKept v_seed v_hall_count v_hall_layers v_now_nights v_now_off) H → va_S A s.heap H locs → W p l e (rm_ 2 (40 * 2)) s m args below meth c H locs 0 0 Q (F0 m 0 ls []) := by
    intro H locs hP hS
    refine lv_aload_n hx hb d_PR_shown_0 rfl (lv_at hl 0 rfl) ?_
    refine gf_PR_19 hC hP 0 rfl rfl d_PR_shown_1 ?_
    refine lv_iload_n hx hb d_PR_shown_4 rfl (lv_at hl 1 rfl) ?_
    refine lv_aload_n hx hb d_PR_shown_5 rfl (lv_at hl 0 rfl) ?_
    refine gf_PR_26 hC hP 0 rfl rfl d_PR_shown_6 ?_
    refine lv_iload_n hx hb d_PR_shown_9 rfl (lv_at hl 1 rfl) ?_
    obtain ⟨r1, h2, hf⟩ := o_bind hf
    refine cVi (rest := [.int i1, .ref a_hall]) (wr := [(a_p0, .inr (6, [.ref z_text, .ref a_hall, .ref a_now, .ref z_trial, .ref z_hand, .ref z_acts, .ref z_slots, .ref z_seen, .int v_actCount, .int v_slotsKept, .long v_seed])), (a_hall, .inr (0, [.ref a_hall_layers, .ref z_hall_kinds, .ref z_hall_patiences, .ref z_hall_wanted, .int v_hall_count])), (a_hall_layers, .inl (cI, 12, .inl v_hall_layers))]) (wn := (cs_PR_shown cI cZ a_p0 a_hall a_hall_layers a_now a_now_off z_text z_trial z_hand z_acts z_slots z_seen z_hall_kinds z_hall_patiences z_hall_wanted z_now_waited v_actCount v_slotsKept v_seed v_hall_count v_hall_layers v_now_nights v_now_off)) (c_Scene_off l D cI cZ a_now a_now_off z_now_waited i1 v_now_nights v_now_off r1 h2) hC hA hP hD hS hl.1 cw_PR_112 3 rfl rfl rfl ⟨Nat.le_of_ble_eq_true rfl, Nat.le_of_ble_eq_true rfl⟩ rfl rfl (Nat.le_of_ble_eq_true rfl) d_PR_shown_10 ⟨Nat.zero_le _, Nat.zero_le _⟩ [3, 4] [0, 1, 2] [0, 1, 2, 3, 4] (by decide) (Cut_mk rfl rfl (by decide) (by decide) (by decide) rfl) (fun H locs hP hD hS => ?_)
    obtain ⟨r3, h4, hf⟩ := o_bind hf
    refine cVi (rest := []) (wr := [(a_p0, .inr (6, [.ref z_text, .ref a_hall, .ref a_now, .ref z_trial, .ref z_hand, .ref z_acts, .ref z_slots, .ref z_seen, .int v_actCount, .int v_slotsKept, .long v_seed])), (a_now, .inr (2, [.ref a_now_off, .ref z_now_waited, .int v_now_nights])), (a_now_off, .inl (cI, 4, .inl v_now_off))]) (wn := (cs_PR_shown cI cZ a_p0 a_hall a_hall_layers a_now a_now_off z_text z_trial z_hand z_acts z_slots z_seen z_hall_kinds z_hall_patiences z_hall_wanted z_now_waited v_actCount v_slotsKept v_seed v_hall_count v_hall_layers v_now_nights v_now_off)) (c_Hall_layer l D cI cZ a_hall a_hall_layers z_hall_kinds z_hall_patiences z_hall_wanted i1 r1 v_hall_count v_hall_layers r3 h4) hC hA hP hD hS hl.1 cw_PR_108 1 rfl rfl rfl ⟨Nat.le_of_ble_eq_true rfl, Nat.le_of_ble_eq_true rfl⟩ rfl rfl (Nat.le_of_ble_eq_true rfl) d_PR_shown_13 ⟨Nat.zero_le _, Nat.zero_le _⟩ [1, 2] [0, 3, 4] [0, 3, 4, 1, 2] (by decide) (Cut_mk rfl rfl (by decide) (by decide) (by decide) rfl) (fun H locs hP hD hS => ?_)
    have hr := Option.some.inj hf
    exact RET _ _ _ _ _ _ rfl (congrArg (fun r : Int32 => r) hr) rfl hP hD hS d_PR_shown_16
  exact E _ _ hP hS
set_option maxHeartbeats 4000000 in
set_option maxRecDepth 100000 in
theorem c_PR_finger (l : Launch) (D : va_G) (cI cZ : ClassId) (a_p0 a_hall a_hall_layers a_now a_now_off z_text z_trial z_hand z_acts z_slots z_seen z_hall_kinds z_hall_patiences z_hall_wanted z_now_waited : Nat) (i1 : Int32) (i2 : Int32) (v_actCount : Int32) (v_slotsKept : Int32) (v_seed : Int64) (v_hall_count : Int32) (v_hall_layers : Nat → Int32) (v_now_nights : Int32) (v_now_off : Nat → Int32) (res : Int32) (hf : f_PR_finger i1 i2 v_hall_layers v_now_off = some res) : CtI l y_PR_finger b_PR_finger 3 (some .int) 3 D cI cZ [.ref a_p0, .int i1, .int i2] (cs_PR_finger cI cZ a_p0 a_hall a_hall_layers a_now a_now_off z_text z_trial z_hand z_acts z_slots z_seen z_hall_kinds z_hall_patiences z_hall_wanted z_now_waited v_actCount v_slotsKept v_seed v_hall_count v_hall_layers v_now_nights v_now_off) res (cs_PR_finger cI cZ a_p0 a_hall a_hall_layers a_now a_now_off z_text z_trial z_hand z_acts z_slots z_seen z_hall_kinds z_hall_patiences z_hall_wanted z_now_waited v_actCount v_slotsKept v_seed v_hall_count v_hall_layers v_now_nights v_now_off) := by
  refine CtI_mk (by decide) (Nat.le_of_ble_eq_true rfl) ?_
  intro p e s m args below meth c A Q hC hA hP hD RET ls hl
  have hC : Cx p s m args meth c b_PR_finger 3 R_PR D cI cZ := hC
  have hl : lv_has ls 3 [(0, .ref a_p0), (1, .int i1), (2, .int i2)] := hl
  obtain ⟨hx, hb, hml, hown, hts, hlk, hKK⟩ := id hC
  have hS : va_S A s.heap s.heap [] := va_S.rf
  have B_18 : ∀   (H : Heap) (locs : List Loc) (ls : Array Slot), va_P D classes (cs_PR_finger cI cZ a_p0 a_hall a_hall_layers a_now a_now_off z_text z_trial z_hand z_acts z_slots z_seen z_hall_kinds z_hall_patiences z_hall_wanted z_now_waited v_actCount v_slotsKept v_seed v_hall_count v_hall_layers v_now_nights v_now_off) H → va_D A (cs_PR_finger cI cZ a_p0 a_hall a_hall_layers a_now a_now_off z_text z_trial z_hand z_acts z_slots z_seen z_hall_kinds z_hall_patiences z_hall_wanted z_now_waited v_actCount v_slotsKept v_seed v_hall_count v_hall_layers v_now_nights v_now_off) → va_S A s.heap H locs → lv_has ls 3 [] → f_PR_finger_18  v_hall_layers v_now_off  = some res → W p l e (rm_ 3 (40 * 3)) s m args below meth c H locs 0 0 Q (F0 m 18 ls []) := by
    intro   H locs ls hP hD hS hl hf
    unfold f_PR_finger_18 at hf
    refine lv_bipush (v := (-2)) hx hb d_PR_finger_18 (by decide) ?_
    have hr := Option.some.inj hf
    exact RET _ _ _ _ _ _ rfl (congrArg (fun r : Int32 => r) hr) rfl hP hD hS d_PR_finger_20
  have B_57 : ∀  (w0 : Int32) (H : Heap) (locs : List Loc) (ls : Array Slot), va_P D classes (cs_PR_finger cI cZ a_p0 a_hall a_hall_layers a_now a_now_off z_text z_trial z_hand z_acts z_slots z_seen z_hall_kinds z_hall_patiences z_hall_wanted z_now_waited v_actCount v_slotsKept v_seed v_hall_count v_hall_layers v_now_nights v_now_off) H → va_D A (cs_PR_finger cI cZ a_p0 a_hall a_hall_layers a_now a_now_off z_text z_trial z_hand z_acts z_slots z_seen z_hall_kinds z_hall_patiences z_hall_wanted z_now_waited v_actCount v_slotsKept v_seed v_hall_count v_hall_layers v_now_nights v_now_off) → va_S A s.heap H locs → lv_has ls 3 [] → f_PR_finger_57  v_hall_layers v_now_off w0 = some res → W p l e (rm_ 3 (40 * 3)) s m args below meth c H locs 0 0 Q (F0 m 57 ls [.int w0]) := by
    intro  w0 H locs ls hP hD hS hl hf
    unfold f_PR_finger_57 at hf
    have hr := Option.some.inj hf
    exact RET _ _ _ _ _ _ rfl (congrArg (fun r : Int32 => r) hr) rfl hP hD hS d_PR_finger_57
  unfold f_PR_finger at hf
  have E : ∀ (H : Heap) (locs : List Loc), va_P D classes (cs_PR_finger cI cZ a_p0 a_hall a_hall_layers a_now a_now_off z_text z_trial z_hand z_acts z_slots z_seen z_hall_kinds z_hall_patiences z_hall_wanted z_now_waited v_actCount v_slotsKept v_seed v_hall_count v_hall_layers v_now_nights v_now_off) H → va_S A s.heap H locs → W p l e (rm_ 3 (40 * 3)) s m args below meth c H locs 0 0 Q (F0 m 0 ls []) := by
    intro H locs hP hS
    refine lv_iload_n hx hb d_PR_finger_0 rfl (lv_at hl 1 rfl) ?_
    obtain ⟨r1, h2, hf⟩ := o_bind hf
    refine cSi0 (rest := []) (c_PR_isFinger l D cI cZ i1 r1 h2) hC hA hP hD hS hl.1 cw_PR_105 ⟨Nat.le_of_ble_eq_true rfl, Nat.le_of_ble_eq_true rfl⟩ rfl rfl (Nat.le_of_ble_eq_true rfl) d_PR_finger_1 ⟨Nat.zero_le _, Nat.zero_le _⟩ (fun H locs hP hS => ?_)
    refine lv_if_ne (tgt := 9) hx hb d_PR_finger_4 (by decide) (fun c3 => ?_) (fun c3 => ?_)
    · have hf := o_neg c3 hf
      refine lv_iload_n hx hb d_PR_finger_9 rfl (lv_at hl 2 rfl) ?_
      refine lv_if_lt (tgt := 18) hx hb d_PR_finger_10 (by decide) (fun c4 => ?_) (fun c4 => ?_)
      · have hf := o_pos c4 hf
        exact B_18 _ _ _ hP hD hS (lv_sub hl [] rfl) hf
      · have hf := o_neg c4 hf
        refine lv_iload_n hx hb d_PR_finger_13 rfl (lv_at hl 2 rfl) ?_
        refine lv_iconst (v := 4) hx hb d_PR_finger_14 (by decide) ?_
        refine lv_icmp_le (tgt := 21) hx hb d_PR_finger_15 (by decide) (fun c5 => ?_) (fun c5 => ?_)
        · have hf := o_pos c5 hf
          refine lv_iload_n hx hb d_PR_finger_21 rfl (lv_at hl 2 rfl) ?_
          refine lv_iconst (v := 3) hx hb d_PR_finger_22 (by decide) ?_
          refine lv_icmp_ge (tgt := 36) hx hb d_PR_finger_23 (by decide) (fun c6 => ?_) (fun c6 => ?_)
          · have hf := o_pos c6 hf
            refine lv_iload_n hx hb d_PR_finger_36 rfl (lv_at hl 2 rfl) ?_
            refine lv_iconst (v := 3) hx hb d_PR_finger_37 (by decide) ?_
            refine lv_icmp_ne (tgt := 52) hx hb d_PR_finger_38 (by decide) (fun c7 => ?_) (fun c7 => ?_)
            · have hf := o_neg c7 hf
              refine lv_aload_n hx hb d_PR_finger_52 rfl (lv_at hl 0 rfl) ?_
              refine lv_iload_n hx hb d_PR_finger_53 rfl (lv_at hl 1 rfl) ?_
              obtain ⟨r8, h9, hf⟩ := o_bind hf
              refine cVi (rest := []) (wr := []) (wn := (cs_PR_finger cI cZ a_p0 a_hall a_hall_layers a_now a_now_off z_text z_trial z_hand z_acts z_slots z_seen z_hall_kinds z_hall_patiences z_hall_wanted z_now_waited v_actCount v_slotsKept v_seed v_hall_count v_hall_layers v_now_nights v_now_off)) (c_PR_shown l D cI cZ a_p0 a_hall a_hall_layers a_now a_now_off z_text z_trial z_hand z_acts z_slots z_seen z_hall_kinds z_hall_patiences z_hall_wanted z_now_waited i1 v_actCount v_slotsKept v_seed v_hall_count v_hall_layers v_now_nights v_now_off r8 h9) hC hA hP hD hS hl.1 cw_PR_116 0 rfl rfl rfl ⟨Nat.le_of_ble_eq_true rfl, Nat.le_of_ble_eq_true rfl⟩ rfl rfl (Nat.le_of_ble_eq_true rfl) d_PR_finger_54 ⟨Nat.zero_le _, Nat.zero_le _⟩ [0, 1, 2, 3, 4] [] [0, 1, 2, 3, 4] (by decide) (Cut_mk rfl rfl (by decide) (by decide) (by decide) rfl) (fun H locs hP hD hS => ?_)
              exact B_57 r8 _ _ _ hP hD hS (lv_sub hl [] rfl) hf
            · have hf := o_pos c7 hf
              refine lv_aload_n hx hb d_PR_finger_41 rfl (lv_at hl 0 rfl) ?_
              refine gf_PR_26 hC hP 0 rfl rfl d_PR_finger_42 ?_
              refine lv_iload_n hx hb d_PR_finger_45 rfl (lv_at hl 1 rfl) ?_
              obtain ⟨r10, h11, hf⟩ := o_bind hf
              refine cVi (rest := []) (wr := [(a_p0, .inr (6, [.ref z_text, .ref a_hall, .ref a_now, .ref z_trial, .ref z_hand, .ref z_acts, .ref z_slots, .ref z_seen, .int v_actCount, .int v_slotsKept, .long v_seed])), (a_hall, .inr (0, [.ref a_hall_layers, .ref z_hall_kinds, .ref z_hall_patiences, .ref z_hall_wanted, .int v_hall_count])), (a_hall_layers, .inl (cI, 12, .inl v_hall_layers))]) (wn := (cs_PR_finger cI cZ a_p0 a_hall a_hall_layers a_now a_now_off z_text z_trial z_hand z_acts z_slots z_seen z_hall_kinds z_hall_patiences z_hall_wanted z_now_waited v_actCount v_slotsKept v_seed v_hall_count v_hall_layers v_now_nights v_now_off)) (c_Scene_off l D cI cZ a_now a_now_off z_now_waited i1 v_now_nights v_now_off r10 h11) hC hA hP hD hS hl.1 cw_PR_112 3 rfl rfl rfl ⟨Nat.le_of_ble_eq_true rfl, Nat.le_of_ble_eq_true rfl⟩ rfl rfl (Nat.le_of_ble_eq_true rfl) d_PR_finger_46 ⟨Nat.zero_le _, Nat.zero_le _⟩ [3, 4] [0, 1, 2] [0, 1, 2, 3, 4] (by decide) (Cut_mk rfl rfl (by decide) (by decide) (by decide) rfl) (fun H locs hP hD hS => ?_)
              refine lv_goto (tgt := 57) hx hb d_PR_finger_49 (by decide) ?_
              exact B_57 r10 _ _ _ hP hD hS (lv_sub hl [] rfl) hf
          · have hf := o_neg c6 hf
            refine lv_aload_n hx hb d_PR_finger_26 rfl (lv_at hl 0 rfl) ?_
            refine gf_PR_19 hC hP 0 rfl rfl d_PR_finger_27 ?_
            refine lv_iload_n hx hb d_PR_finger_30 rfl (lv_at hl 1 rfl) ?_
            refine lv_iload_n hx hb d_PR_finger_31 rfl (lv_at hl 2 rfl) ?_
            obtain ⟨r12, h13, hf⟩ := o_bind hf
            refine cVi (rest := []) (wr := [(a_p0, .inr (6, [.ref z_text, .ref a_hall, .ref a_now, .ref z_trial, .ref z_hand, .ref z_acts, .ref z_slots, .ref z_seen, .int v_actCount, .int v_slotsKept, .long v_seed])), (a_now, .inr (2, [.ref a_now_off, .ref z_now_waited, .int v_now_nights])), (a_now_off, .inl (cI, 4, .inl v_now_off))]) (wn := (cs_PR_finger cI cZ a_p0 a_hall a_hall_layers a_now a_now_off z_text z_trial z_hand z_acts z_slots z_seen z_hall_kinds z_hall_patiences z_hall_wanted z_now_waited v_actCount v_slotsKept v_seed v_hall_count v_hall_layers v_now_nights v_now_off)) (c_Hall_layer l D cI cZ a_hall a_hall_layers z_hall_kinds z_hall_patiences z_hall_wanted i1 i2 v_hall_count v_hall_layers r12 h13) hC hA hP hD hS hl.1 cw_PR_108 1 rfl rfl rfl ⟨Nat.le_of_ble_eq_true rfl, Nat.le_of_ble_eq_true rfl⟩ rfl rfl (Nat.le_of_ble_eq_true rfl) d_PR_finger_32 ⟨Nat.zero_le _, Nat.zero_le _⟩ [1, 2] [0, 3, 4] [0, 3, 4, 1, 2] (by decide) (Cut_mk rfl rfl (by decide) (by decide) (by decide) rfl) (fun H locs hP hD hS => ?_)
            have hr := Option.some.inj hf
            exact RET _ _ _ _ _ _ rfl (congrArg (fun r : Int32 => r) hr) rfl hP hD hS d_PR_finger_35
        · have hf := o_neg c5 hf
          exact B_18 _ _ _ hP hD hS (lv_sub hl [] rfl) hf
    · have hf := o_pos c3 hf
      refine lv_iconst (v := (-1)) hx hb d_PR_finger_7 (by decide) ?_
      have hr := Option.some.inj hf
      exact RET _ _ _ _ _ _ rfl (congrArg (fun r : Int32 => r) hr) rfl hP hD hS d_PR_finger_8
  exact E _ _ hP hS
set_option maxHeartbeats 4000000 in
set_option maxRecDepth 100000 in
theorem c_PR_cabman (l : Launch) (D : va_G) (cI cZ : ClassId) (a_p0 a_hall a_hall_kinds a_hall_patiences a_hall_wanted a_now a_now_waited z_text z_trial z_hand z_acts z_slots z_seen z_hall_layers z_now_off : Nat) (i1 : Int32) (i2 : Int32) (v_actCount : Int32) (v_slotsKept : Int32) (v_seed : Int64) (v_hall_count : Int32) (v_hall_kinds : Nat → Int32) (v_hall_patiences : Nat → Int32) (v_hall_wanted : Nat → Int32) (v_now_nights : Int32) (v_now_waited : Nat → Int32) (res : Int32) (hf : f_PR_cabman i1 i2 v_hall_count v_hall_kinds v_hall_patiences v_hall_wanted v_now_waited = some res) : CtI l y_PR_cabman b_PR_cabman 3 (some .int) 1 D cI cZ [.ref a_p0, .int i1, .int i2] (cs_PR_cabman cI cZ a_p0 a_hall a_hall_kinds a_hall_patiences a_hall_wanted a_now a_now_waited z_text z_trial z_hand z_acts z_slots z_seen z_hall_layers z_now_off v_actCount v_slotsKept v_seed v_hall_count v_hall_kinds v_hall_patiences v_hall_wanted v_now_nights v_now_waited) res (cs_PR_cabman cI cZ a_p0 a_hall a_hall_kinds a_hall_patiences a_hall_wanted a_now a_now_waited z_text z_trial z_hand z_acts z_slots z_seen z_hall_layers z_now_off v_actCount v_slotsKept v_seed v_hall_count v_hall_kinds v_hall_patiences v_hall_wanted v_now_nights v_now_waited) := by
  refine CtI_mk (by decide) (Nat.le_of_ble_eq_true rfl) ?_
  intro p e s m args below meth c A Q hC hA hP hD RET ls hl
  have hC : Cx p s m args meth c b_PR_cabman 3 R_PR D cI cZ := hC
  have hl : lv_has ls 3 [(0, .ref a_p0), (1, .int i1), (2, .int i2)] := hl
  obtain ⟨hx, hb, hml, hown, hts, hlk, hKK⟩ := id hC
  have hS : va_S A s.heap s.heap [] := va_S.rf
  unfold f_PR_cabman at hf
  have E : ∀ (H : Heap) (locs : List Loc), va_P D classes (cs_PR_cabman cI cZ a_p0 a_hall a_hall_kinds a_hall_patiences a_hall_wanted a_now a_now_waited z_text z_trial z_hand z_acts z_slots z_seen z_hall_layers z_now_off v_actCount v_slotsKept v_seed v_hall_count v_hall_kinds v_hall_patiences v_hall_wanted v_now_nights v_now_waited) H → va_S A s.heap H locs → W p l e (rm_ 1 (40 * 1)) s m args below meth c H locs 0 0 Q (F0 m 0 ls []) := by
    intro H locs hP hS
    refine lv_aload_n hx hb d_PR_cabman_0 rfl (lv_at hl 0 rfl) ?_
    refine gf_PR_19 hC hP 0 rfl rfl d_PR_cabman_1 ?_
    refine lv_iload_n hx hb d_PR_cabman_4 rfl (lv_at hl 1 rfl) ?_
    obtain ⟨r1, h2, hf⟩ := o_bind hf
    refine cVi (rest := []) (wr := [(a_p0, .inr (6, [.ref z_text, .ref a_hall, .ref a_now, .ref z_trial, .ref z_hand, .ref z_acts, .ref z_slots, .ref z_seen, .int v_actCount, .int v_slotsKept, .long v_seed])), (a_hall_kinds, .inl (cI, 5, .inl v_hall_kinds)), (a_hall_patiences, .inl (cI, 5, .inl v_hall_patiences)), (a_hall_wanted, .inl (cI, 20, .inl v_hall_wanted)), (a_now, .inr (2, [.ref z_now_off, .ref a_now_waited, .int v_now_nights])), (a_now_waited, .inl (cI, 5, .inl v_now_waited))]) (wn := (cs_PR_cabman cI cZ a_p0 a_hall a_hall_kinds a_hall_patiences a_hall_wanted a_now a_now_waited z_text z_trial z_hand z_acts z_slots z_seen z_hall_layers z_now_off v_actCount v_slotsKept v_seed v_hall_count v_hall_kinds v_hall_patiences v_hall_wanted v_now_nights v_now_waited)) (c_Hall_has l D cI cZ a_hall z_hall_layers a_hall_kinds a_hall_patiences a_hall_wanted i1 v_hall_count r1 h2) hC hA hP hD hS hl.1 cw_PR_119 1 rfl rfl rfl ⟨Nat.le_of_ble_eq_true rfl, Nat.le_of_ble_eq_true rfl⟩ rfl rfl (Nat.le_of_ble_eq_true rfl) d_PR_cabman_5 ⟨Nat.zero_le _, Nat.zero_le _⟩ [1] [0, 2, 3, 4, 5, 6] [0, 6, 1, 2, 3, 4, 5] (by decide) (Cut_mk rfl rfl (by decide) (by decide) (by decide) rfl) (fun H locs hP hD hS => ?_)
    refine lv_if_ne (tgt := 13) hx hb d_PR_cabman_8 (by decide) (fun c3 => ?_) (fun c3 => ?_)
    · have hf := o_neg c3 hf
      refine lv_iload_n hx hb d_PR_cabman_13 rfl (lv_at hl 2 rfl) ?_
      by_cases c4 : i2 = 0
      · have hf := o_pos c4 hf
        refine lv_tableIn (off := 42) (tgt := 56) hx hb d_PR_cabman_14 (by rw [c4]; decide) (by rw [c4]; decide) (by rw [c4]; rfl) (by decide) ?_
        refine lv_aload_n hx hb d_PR_cabman_56 rfl (lv_at hl 0 rfl) ?_
        refine gf_PR_19 hC hP 0 rfl rfl d_PR_cabman_57 ?_
        refine lv_iload_n hx hb d_PR_cabman_60 rfl (lv_at hl 1 rfl) ?_
        obtain ⟨r5, h6, hf⟩ := o_bind hf
        refine cVi (rest := []) (wr := [(a_p0, .inr (6, [.ref z_text, .ref a_hall, .ref a_now, .ref z_trial, .ref z_hand, .ref z_acts, .ref z_slots, .ref z_seen, .int v_actCount, .int v_slotsKept, .long v_seed])), (a_hall_patiences, .inl (cI, 5, .inl v_hall_patiences)), (a_hall_wanted, .inl (cI, 20, .inl v_hall_wanted)), (a_now, .inr (2, [.ref z_now_off, .ref a_now_waited, .int v_now_nights])), (a_now_waited, .inl (cI, 5, .inl v_now_waited))]) (wn := (cs_PR_cabman cI cZ a_p0 a_hall a_hall_kinds a_hall_patiences a_hall_wanted a_now a_now_waited z_text z_trial z_hand z_acts z_slots z_seen z_hall_layers z_now_off v_actCount v_slotsKept v_seed v_hall_count v_hall_kinds v_hall_patiences v_hall_wanted v_now_nights v_now_waited)) (c_Hall_kind l D cI cZ a_hall a_hall_kinds z_hall_layers a_hall_patiences a_hall_wanted i1 v_hall_count v_hall_kinds r5 h6) hC hA hP hD hS hl.1 cw_PR_122 1 rfl rfl rfl ⟨Nat.le_of_ble_eq_true rfl, Nat.le_of_ble_eq_true rfl⟩ rfl rfl (Nat.le_of_ble_eq_true rfl) d_PR_cabman_61 ⟨Nat.zero_le _, Nat.zero_le _⟩ [1, 2] [0, 3, 4, 5, 6] [0, 5, 6, 1, 2, 3, 4] (by decide) (Cut_mk rfl rfl (by decide) (by decide) (by decide) rfl) (fun H locs hP hD hS => ?_)
        have hr := Option.some.inj hf
        exact RET _ _ _ _ _ _ rfl (congrArg (fun r : Int32 => r) hr) rfl hP hD hS d_PR_cabman_64
      · have hf := o_neg c4 hf
        by_cases c7 : i2 = 1
        · have hf := o_pos c7 hf
          refine lv_tableIn (off := 51) (tgt := 65) hx hb d_PR_cabman_14 (by rw [c7]; decide) (by rw [c7]; decide) (by rw [c7]; rfl) (by decide) ?_
          refine lv_aload_n hx hb d_PR_cabman_65 rfl (lv_at hl 0 rfl) ?_
          refine gf_PR_19 hC hP 0 rfl rfl d_PR_cabman_66 ?_
          refine lv_iload_n hx hb d_PR_cabman_69 rfl (lv_at hl 1 rfl) ?_
          obtain ⟨r8, h9, hf⟩ := o_bind hf
          refine cVi (rest := []) (wr := [(a_p0, .inr (6, [.ref z_text, .ref a_hall, .ref a_now, .ref z_trial, .ref z_hand, .ref z_acts, .ref z_slots, .ref z_seen, .int v_actCount, .int v_slotsKept, .long v_seed])), (a_hall_kinds, .inl (cI, 5, .inl v_hall_kinds)), (a_hall_wanted, .inl (cI, 20, .inl v_hall_wanted)), (a_now, .inr (2, [.ref z_now_off, .ref a_now_waited, .int v_now_nights])), (a_now_waited, .inl (cI, 5, .inl v_now_waited))]) (wn := (cs_PR_cabman cI cZ a_p0 a_hall a_hall_kinds a_hall_patiences a_hall_wanted a_now a_now_waited z_text z_trial z_hand z_acts z_slots z_seen z_hall_layers z_now_off v_actCount v_slotsKept v_seed v_hall_count v_hall_kinds v_hall_patiences v_hall_wanted v_now_nights v_now_waited)) (c_Hall_patience l D cI cZ a_hall a_hall_patiences z_hall_layers a_hall_kinds a_hall_wanted i1 v_hall_count v_hall_patiences r8 h9) hC hA hP hD hS hl.1 cw_PR_125 1 rfl rfl rfl ⟨Nat.le_of_ble_eq_true rfl, Nat.le_of_ble_eq_true rfl⟩ rfl rfl (Nat.le_of_ble_eq_true rfl) d_PR_cabman_70 ⟨Nat.zero_le _, Nat.zero_le _⟩ [1, 3] [0, 2, 4, 5, 6] [0, 5, 1, 6, 2, 3, 4] (by decide) (Cut_mk rfl rfl (by decide) (by decide) (by decide) rfl) (fun H locs hP hD hS => ?_)
          have hr := Option.some.inj hf
          exact RET _ _ _ _ _ _ rfl (congrArg (fun r : Int32 => r) hr) rfl hP hD hS d_PR_cabman_73
        · have hf := o_neg c7 hf
          by_cases c10 : i2 = 2
          · have hf := o_pos c10 hf
            refine lv_tableIn (off := 60) (tgt := 74) hx hb d_PR_cabman_14 (by rw [c10]; decide) (by rw [c10]; decide) (by rw [c10]; rfl) (by decide) ?_
            refine lv_aload_n hx hb d_PR_cabman_74 rfl (lv_at hl 0 rfl) ?_
            refine gf_PR_19 hC hP 0 rfl rfl d_PR_cabman_75 ?_
            refine lv_iload_n hx hb d_PR_cabman_78 rfl (lv_at hl 1 rfl) ?_
            refine lv_iload_n hx hb d_PR_cabman_79 rfl (lv_at hl 2 rfl) ?_
            refine lv_iconst (v := 2) hx hb d_PR_cabman_80 (by decide) ?_
            refine lv_isub hx hb d_PR_cabman_81 ?_
            obtain ⟨r11, h12, hf⟩ := o_bind hf
            refine cVi (rest := []) (wr := [(a_p0, .inr (6, [.ref z_text, .ref a_hall, .ref a_now, .ref z_trial, .ref z_hand, .ref z_acts, .ref z_slots, .ref z_seen, .int v_actCount, .int v_slotsKept, .long v_seed])), (a_hall_kinds, .inl (cI, 5, .inl v_hall_kinds)), (a_hall_patiences, .inl (cI, 5, .inl v_hall_patiences)), (a_now, .inr (2, [.ref z_now_off, .ref a_now_waited, .int v_now_nights])), (a_now_waited, .inl (cI, 5, .inl v_now_waited))]) (wn := (cs_PR_cabman cI cZ a_p0 a_hall a_hall_kinds a_hall_patiences a_hall_wanted a_now a_now_waited z_text z_trial z_hand z_acts z_slots z_seen z_hall_layers z_now_off v_actCount v_slotsKept v_seed v_hall_count v_hall_kinds v_hall_patiences v_hall_wanted v_now_nights v_now_waited)) (c_Hall_wanted l D cI cZ a_hall a_hall_wanted z_hall_layers a_hall_kinds a_hall_patiences i1 (i2 - 2) v_hall_count v_hall_wanted r11 h12) hC hA hP hD hS hl.1 cw_PR_128 1 rfl rfl rfl ⟨Nat.le_of_ble_eq_true rfl, Nat.le_of_ble_eq_true rfl⟩ rfl rfl (Nat.le_of_ble_eq_true rfl) d_PR_cabman_82 ⟨Nat.zero_le _, Nat.zero_le _⟩ [1, 4] [0, 2, 3, 5, 6] [0, 5, 1, 2, 6, 3, 4] (by decide) (Cut_mk rfl rfl (by decide) (by decide) (by decide) rfl) (fun H locs hP hD hS => ?_)
            have hr := Option.some.inj hf
            exact RET _ _ _ _ _ _ rfl (congrArg (fun r : Int32 => r) hr) rfl hP hD hS d_PR_cabman_85
          · have hf := o_neg c10 hf
            by_cases c13 : i2 = 3
            · have hf := o_pos c13 hf
              refine lv_tableIn (off := 60) (tgt := 74) hx hb d_PR_cabman_14 (by rw [c13]; decide) (by rw [c13]; decide) (by rw [c13]; rfl) (by decide) ?_
              refine lv_aload_n hx hb d_PR_cabman_74 rfl (lv_at hl 0 rfl) ?_
              refine gf_PR_19 hC hP 0 rfl rfl d_PR_cabman_75 ?_
              refine lv_iload_n hx hb d_PR_cabman_78 rfl (lv_at hl 1 rfl) ?_
              refine lv_iload_n hx hb d_PR_cabman_79 rfl (lv_at hl 2 rfl) ?_
              refine lv_iconst (v := 2) hx hb d_PR_cabman_80 (by decide) ?_
              refine lv_isub hx hb d_PR_cabman_81 ?_
              obtain ⟨r14, h15, hf⟩ := o_bind hf
              refine cVi (rest := []) (wr := [(a_p0, .inr (6, [.ref z_text, .ref a_hall, .ref a_now, .ref z_trial, .ref z_hand, .ref z_acts, .ref z_slots, .ref z_seen, .int v_actCount, .int v_slotsKept, .long v_seed])), (a_hall_kinds, .inl (cI, 5, .inl v_hall_kinds)), (a_hall_patiences, .inl (cI, 5, .inl v_hall_patiences)), (a_now, .inr (2, [.ref z_now_off, .ref a_now_waited, .int v_now_nights])), (a_now_waited, .inl (cI, 5, .inl v_now_waited))]) (wn := (cs_PR_cabman cI cZ a_p0 a_hall a_hall_kinds a_hall_patiences a_hall_wanted a_now a_now_waited z_text z_trial z_hand z_acts z_slots z_seen z_hall_layers z_now_off v_actCount v_slotsKept v_seed v_hall_count v_hall_kinds v_hall_patiences v_hall_wanted v_now_nights v_now_waited)) (c_Hall_wanted l D cI cZ a_hall a_hall_wanted z_hall_layers a_hall_kinds a_hall_patiences i1 (i2 - 2) v_hall_count v_hall_wanted r14 h15) hC hA hP hD hS hl.1 cw_PR_128 1 rfl rfl rfl ⟨Nat.le_of_ble_eq_true rfl, Nat.le_of_ble_eq_true rfl⟩ rfl rfl (Nat.le_of_ble_eq_true rfl) d_PR_cabman_82 ⟨Nat.zero_le _, Nat.zero_le _⟩ [1, 4] [0, 2, 3, 5, 6] [0, 5, 1, 2, 6, 3, 4] (by decide) (Cut_mk rfl rfl (by decide) (by decide) (by decide) rfl) (fun H locs hP hD hS => ?_)
              have hr := Option.some.inj hf
              exact RET _ _ _ _ _ _ rfl (congrArg (fun r : Int32 => r) hr) rfl hP hD hS d_PR_cabman_85
            · have hf := o_neg c13 hf
              by_cases c16 : i2 = 4
              · have hf := o_pos c16 hf
                refine lv_tableIn (off := 60) (tgt := 74) hx hb d_PR_cabman_14 (by rw [c16]; decide) (by rw [c16]; decide) (by rw [c16]; rfl) (by decide) ?_
                refine lv_aload_n hx hb d_PR_cabman_74 rfl (lv_at hl 0 rfl) ?_
                refine gf_PR_19 hC hP 0 rfl rfl d_PR_cabman_75 ?_
                refine lv_iload_n hx hb d_PR_cabman_78 rfl (lv_at hl 1 rfl) ?_
                refine lv_iload_n hx hb d_PR_cabman_79 rfl (lv_at hl 2 rfl) ?_
                refine lv_iconst (v := 2) hx hb d_PR_cabman_80 (by decide) ?_
                refine lv_isub hx hb d_PR_cabman_81 ?_
                obtain ⟨r17, h18, hf⟩ := o_bind hf
                refine cVi (rest := []) (wr := [(a_p0, .inr (6, [.ref z_text, .ref a_hall, .ref a_now, .ref z_trial, .ref z_hand, .ref z_acts, .ref z_slots, .ref z_seen, .int v_actCount, .int v_slotsKept, .long v_seed])), (a_hall_kinds, .inl (cI, 5, .inl v_hall_kinds)), (a_hall_patiences, .inl (cI, 5, .inl v_hall_patiences)), (a_now, .inr (2, [.ref z_now_off, .ref a_now_waited, .int v_now_nights])), (a_now_waited, .inl (cI, 5, .inl v_now_waited))]) (wn := (cs_PR_cabman cI cZ a_p0 a_hall a_hall_kinds a_hall_patiences a_hall_wanted a_now a_now_waited z_text z_trial z_hand z_acts z_slots z_seen z_hall_layers z_now_off v_actCount v_slotsKept v_seed v_hall_count v_hall_kinds v_hall_patiences v_hall_wanted v_now_nights v_now_waited)) (c_Hall_wanted l D cI cZ a_hall a_hall_wanted z_hall_layers a_hall_kinds a_hall_patiences i1 (i2 - 2) v_hall_count v_hall_wanted r17 h18) hC hA hP hD hS hl.1 cw_PR_128 1 rfl rfl rfl ⟨Nat.le_of_ble_eq_true rfl, Nat.le_of_ble_eq_true rfl⟩ rfl rfl (Nat.le_of_ble_eq_true rfl) d_PR_cabman_82 ⟨Nat.zero_le _, Nat.zero_le _⟩ [1, 4] [0, 2, 3, 5, 6] [0, 5, 1, 2, 6, 3, 4] (by decide) (Cut_mk rfl rfl (by decide) (by decide) (by decide) rfl) (fun H locs hP hD hS => ?_)
                have hr := Option.some.inj hf
                exact RET _ _ _ _ _ _ rfl (congrArg (fun r : Int32 => r) hr) rfl hP hD hS d_PR_cabman_85
              · have hf := o_neg c16 hf
                by_cases c19 : i2 = 5
                · have hf := o_pos c19 hf
                  refine lv_tableIn (off := 60) (tgt := 74) hx hb d_PR_cabman_14 (by rw [c19]; decide) (by rw [c19]; decide) (by rw [c19]; rfl) (by decide) ?_
                  refine lv_aload_n hx hb d_PR_cabman_74 rfl (lv_at hl 0 rfl) ?_
                  refine gf_PR_19 hC hP 0 rfl rfl d_PR_cabman_75 ?_
                  refine lv_iload_n hx hb d_PR_cabman_78 rfl (lv_at hl 1 rfl) ?_
                  refine lv_iload_n hx hb d_PR_cabman_79 rfl (lv_at hl 2 rfl) ?_
                  refine lv_iconst (v := 2) hx hb d_PR_cabman_80 (by decide) ?_
                  refine lv_isub hx hb d_PR_cabman_81 ?_
                  obtain ⟨r20, h21, hf⟩ := o_bind hf
                  refine cVi (rest := []) (wr := [(a_p0, .inr (6, [.ref z_text, .ref a_hall, .ref a_now, .ref z_trial, .ref z_hand, .ref z_acts, .ref z_slots, .ref z_seen, .int v_actCount, .int v_slotsKept, .long v_seed])), (a_hall_kinds, .inl (cI, 5, .inl v_hall_kinds)), (a_hall_patiences, .inl (cI, 5, .inl v_hall_patiences)), (a_now, .inr (2, [.ref z_now_off, .ref a_now_waited, .int v_now_nights])), (a_now_waited, .inl (cI, 5, .inl v_now_waited))]) (wn := (cs_PR_cabman cI cZ a_p0 a_hall a_hall_kinds a_hall_patiences a_hall_wanted a_now a_now_waited z_text z_trial z_hand z_acts z_slots z_seen z_hall_layers z_now_off v_actCount v_slotsKept v_seed v_hall_count v_hall_kinds v_hall_patiences v_hall_wanted v_now_nights v_now_waited)) (c_Hall_wanted l D cI cZ a_hall a_hall_wanted z_hall_layers a_hall_kinds a_hall_patiences i1 (i2 - 2) v_hall_count v_hall_wanted r20 h21) hC hA hP hD hS hl.1 cw_PR_128 1 rfl rfl rfl ⟨Nat.le_of_ble_eq_true rfl, Nat.le_of_ble_eq_true rfl⟩ rfl rfl (Nat.le_of_ble_eq_true rfl) d_PR_cabman_82 ⟨Nat.zero_le _, Nat.zero_le _⟩ [1, 4] [0, 2, 3, 5, 6] [0, 5, 1, 2, 6, 3, 4] (by decide) (Cut_mk rfl rfl (by decide) (by decide) (by decide) rfl) (fun H locs hP hD hS => ?_)
                  have hr := Option.some.inj hf
                  exact RET _ _ _ _ _ _ rfl (congrArg (fun r : Int32 => r) hr) rfl hP hD hS d_PR_cabman_85
                · have hf := o_neg c19 hf
                  by_cases c22 : i2 = 6
                  · have hf := o_pos c22 hf
                    refine lv_tableIn (off := 72) (tgt := 86) hx hb d_PR_cabman_14 (by rw [c22]; decide) (by rw [c22]; decide) (by rw [c22]; rfl) (by decide) ?_
                    refine lv_aload_n hx hb d_PR_cabman_86 rfl (lv_at hl 0 rfl) ?_
                    refine gf_PR_26 hC hP 0 rfl rfl d_PR_cabman_87 ?_
                    refine lv_iload_n hx hb d_PR_cabman_90 rfl (lv_at hl 1 rfl) ?_
                    obtain ⟨r23, h24, hf⟩ := o_bind hf
                    refine cVi (rest := []) (wr := [(a_p0, .inr (6, [.ref z_text, .ref a_hall, .ref a_now, .ref z_trial, .ref z_hand, .ref z_acts, .ref z_slots, .ref z_seen, .int v_actCount, .int v_slotsKept, .long v_seed])), (a_hall, .inr (0, [.ref z_hall_layers, .ref a_hall_kinds, .ref a_hall_patiences, .ref a_hall_wanted, .int v_hall_count])), (a_hall_kinds, .inl (cI, 5, .inl v_hall_kinds)), (a_hall_patiences, .inl (cI, 5, .inl v_hall_patiences)), (a_hall_wanted, .inl (cI, 20, .inl v_hall_wanted))]) (wn := (cs_PR_cabman cI cZ a_p0 a_hall a_hall_kinds a_hall_patiences a_hall_wanted a_now a_now_waited z_text z_trial z_hand z_acts z_slots z_seen z_hall_layers z_now_off v_actCount v_slotsKept v_seed v_hall_count v_hall_kinds v_hall_patiences v_hall_wanted v_now_nights v_now_waited)) (c_Scene_waited l D cI cZ a_now a_now_waited z_now_off i1 v_now_nights v_now_waited r23 h24) hC hA hP hD hS hl.1 cw_PR_131 5 rfl rfl rfl ⟨Nat.le_of_ble_eq_true rfl, Nat.le_of_ble_eq_true rfl⟩ rfl rfl (Nat.le_of_ble_eq_true rfl) d_PR_cabman_91 ⟨Nat.zero_le _, Nat.zero_le _⟩ [5, 6] [0, 1, 2, 3, 4] [0, 1, 2, 3, 4, 5, 6] (by decide) (Cut_mk rfl rfl (by decide) (by decide) (by decide) rfl) (fun H locs hP hD hS => ?_)
                    have hr := Option.some.inj hf
                    exact RET _ _ _ _ _ _ rfl (congrArg (fun r : Int32 => r) hr) rfl hP hD hS d_PR_cabman_94
                  · have hf := o_neg c22 hf
                    have ec4 := sw_ne (k := 0) (by decide) c4
                    have ec7 := sw_ne (k := 1) (by decide) c7
                    have ec10 := sw_ne (k := 2) (by decide) c10
                    have ec13 := sw_ne (k := 3) (by decide) c13
                    have ec16 := sw_ne (k := 4) (by decide) c16
                    have ec19 := sw_ne (k := 5) (by decide) c19
                    have ec22 := sw_ne (k := 6) (by decide) c22
                    refine lv_tableOut (tgt := 95) hx hb d_PR_cabman_14 (by omega) (by decide) ?_
                    refine lv_bipush (v := (-2)) hx hb d_PR_cabman_95 (by decide) ?_
                    have hr := Option.some.inj hf
                    exact RET _ _ _ _ _ _ rfl (congrArg (fun r : Int32 => r) hr) rfl hP hD hS d_PR_cabman_97
    · have hf := o_pos c3 hf
      refine lv_iconst (v := (-1)) hx hb d_PR_cabman_11 (by decide) ?_
      have hr := Option.some.inj hf
      exact RET _ _ _ _ _ _ rfl (congrArg (fun r : Int32 => r) hr) rfl hP hD hS d_PR_cabman_12
  exact E _ _ hP hS
set_option maxHeartbeats 4000000 in
set_option maxRecDepth 100000 in
theorem c_PR_remember (l : Launch) (D : va_G) (cI cZ : ClassId) (a_p0 a_now a_now_off a_now_waited a_acts a_acts_cells z_text z_hall z_trial z_hand z_slots z_seen : Nat) (v_actCount : Int32) (v_slotsKept : Int32) (v_seed : Int64) (v_now_nights : Int32) (v_now_off : Nat → Int32) (v_now_waited : Nat → Int32) (v_acts_places : Int32) (v_acts_cells : Nat → Int32) (res : Int32 × (Nat → Int32)) (hf : f_PR_remember v_now_nights v_now_off v_now_waited v_acts_places v_actCount v_acts_cells = some res) : CtV l y_PR_remember b_PR_remember 1 none 2 D cI cZ [.ref a_p0] (cs_PR_remember cI cZ a_p0 a_now a_now_off a_now_waited a_acts a_acts_cells z_text z_hall z_trial z_hand z_slots z_seen v_actCount v_slotsKept v_seed v_now_nights v_now_off v_now_waited v_acts_places v_acts_cells) (cs_PR_remember cI cZ a_p0 a_now a_now_off a_now_waited a_acts a_acts_cells z_text z_hall z_trial z_hand z_slots z_seen res.1 v_slotsKept v_seed v_now_nights v_now_off v_now_waited v_acts_places res.2) := by
  refine CtV_mk (by decide) (Nat.le_of_ble_eq_true rfl) ?_
  intro p e s m args below meth c A Q hC hA hP hD RET ls hl
  have hC : Cx p s m args meth c b_PR_remember 1 R_PR D cI cZ := hC
  have hl : lv_has ls 1 [(0, .ref a_p0)] := hl
  obtain ⟨hx, hb, hml, hown, hts, hlk, hKK⟩ := id hC
  have hS : va_S A s.heap s.heap [] := va_S.rf
  have B_26 : ∀  (v_actCount : Int32) (v_acts_cells : Nat → Int32) (H : Heap) (locs : List Loc) (ls : Array Slot), va_P D classes (cs_PR_remember cI cZ a_p0 a_now a_now_off a_now_waited a_acts a_acts_cells z_text z_hall z_trial z_hand z_slots z_seen v_actCount v_slotsKept v_seed v_now_nights v_now_off v_now_waited v_acts_places v_acts_cells) H → va_D A (cs_PR_remember cI cZ a_p0 a_now a_now_off a_now_waited a_acts a_acts_cells z_text z_hall z_trial z_hand z_slots z_seen v_actCount v_slotsKept v_seed v_now_nights v_now_off v_now_waited v_acts_places v_acts_cells) → va_S A s.heap H locs → lv_has ls 1 [(0, .ref a_p0)] → f_PR_remember_26  v_now_nights v_now_off v_now_waited v_acts_places v_actCount v_acts_cells = some res → W p l e (rm_ 2 (40 * 2)) s m args below meth c H locs 0 0 Q (F0 m 26 ls []) := by
    intro  v_actCount v_acts_cells H locs ls hP hD hS hl hf
    unfold f_PR_remember_26 at hf
    refine lv_aload_n hx hb d_PR_remember_26 rfl (lv_at hl 0 rfl) ?_
    refine gf_PR_45 hC hP 0 rfl rfl d_PR_remember_27 ?_
    refine lv_aload_n hx hb d_PR_remember_30 rfl (lv_at hl 0 rfl) ?_
    refine gf_PR_59 hC hP 0 rfl rfl d_PR_remember_31 ?_
    refine lv_aload_n hx hb d_PR_remember_34 rfl (lv_at hl 0 rfl) ?_
    refine gf_PR_26 hC hP 0 rfl rfl d_PR_remember_35 ?_
    obtain ⟨r1, h2, hf⟩ := o_bind hf
    refine cVv (rest := []) (wr := [(a_p0, .inr (6, [.ref z_text, .ref z_hall, .ref a_now, .ref z_trial, .ref z_hand, .ref a_acts, .ref z_slots, .ref z_seen, .int v_actCount, .int v_slotsKept, .long v_seed]))]) (wn := (cs_PR_remember cI cZ a_p0 a_now a_now_off a_now_waited a_acts a_acts_cells z_text z_hall z_trial z_hand z_slots z_seen v_actCount v_slotsKept v_seed v_now_nights v_now_off v_now_waited v_acts_places r1)) (c_Shelf_put l D cI cZ a_acts a_acts_cells a_now a_now_off a_now_waited 140 v_actCount v_acts_places v_acts_cells v_now_nights v_now_off v_now_waited r1 h2) hC hA hP hD hS hl.1 cw_PR_230 4 rfl rfl rfl ⟨Nat.le_of_ble_eq_true rfl, Nat.le_of_ble_eq_true rfl⟩ rfl rfl (Nat.le_of_ble_eq_true rfl) d_PR_remember_38 ⟨Nat.zero_le _, Nat.zero_le _⟩ [4, 5, 1, 2, 3] [0] [0, 3, 4, 5, 1, 2] (by decide) (Cut_mk rfl rfl (by decide) (by decide) (by decide) rfl) (fun H locs hP hD hS => ?_)
    refine lv_aload_n hx hb d_PR_remember_41 rfl (lv_at hl 0 rfl) ?_
    refine lv_dup hx hb d_PR_remember_42 rfl ?_
    refine gf_PR_59 hC hP 0 rfl rfl d_PR_remember_43 ?_
    refine lv_iconst (v := 1) hx hb d_PR_remember_46 (by decide) ?_
    refine lv_iadd hx hb d_PR_remember_47 ?_
    refine pf_PR_59 hC hP hD hS 0 rfl (Nat.le_of_ble_eq_true rfl) d_PR_remember_48 (fun H locs hP hD hS => ?_)
    have hP : va_P D classes (cs_PR_remember cI cZ a_p0 a_now a_now_off a_now_waited a_acts a_acts_cells z_text z_hall z_trial z_hand z_slots z_seen (v_actCount + 1) v_slotsKept v_seed v_now_nights v_now_off v_now_waited v_acts_places r1) H := hP
    have hD : va_D A (cs_PR_remember cI cZ a_p0 a_now a_now_off a_now_waited a_acts a_acts_cells z_text z_hall z_trial z_hand z_slots z_seen (v_actCount + 1) v_slotsKept v_seed v_now_nights v_now_off v_now_waited v_acts_places r1) := hD
    have hr := Option.some.inj hf
    exact RET _ _ _ _ _ (congrArg (fun r : Int32 × (Nat → Int32) => (cs_PR_remember cI cZ a_p0 a_now a_now_off a_now_waited a_acts a_acts_cells z_text z_hall z_trial z_hand z_slots z_seen r.1 v_slotsKept v_seed v_now_nights v_now_off v_now_waited v_acts_places r.2)) hr) hP hD hS d_PR_remember_51
  unfold f_PR_remember at hf
  have E : ∀ (H : Heap) (locs : List Loc), va_P D classes (cs_PR_remember cI cZ a_p0 a_now a_now_off a_now_waited a_acts a_acts_cells z_text z_hall z_trial z_hand z_slots z_seen v_actCount v_slotsKept v_seed v_now_nights v_now_off v_now_waited v_acts_places v_acts_cells) H → va_S A s.heap H locs → W p l e (rm_ 2 (40 * 2)) s m args below meth c H locs 0 0 Q (F0 m 0 ls []) := by
    intro H locs hP hS
    refine lv_aload_n hx hb d_PR_remember_0 rfl (lv_at hl 0 rfl) ?_
    refine gf_PR_59 hC hP 0 rfl rfl d_PR_remember_1 ?_
    refine lv_bipush (v := 14) hx hb d_PR_remember_4 (by decide) ?_
    refine lv_icmp_ne (tgt := 26) hx hb d_PR_remember_6 (by decide) (fun c1 => ?_) (fun c1 => ?_)
    · have hf := o_neg c1 hf
      exact B_26 v_actCount v_acts_cells _ _ _ hP hD hS (lv_sub hl [0] rfl) hf
    · have hf := o_pos c1 hf
      refine lv_aload_n hx hb d_PR_remember_9 rfl (lv_at hl 0 rfl) ?_
      refine gf_PR_45 hC hP 0 rfl rfl d_PR_remember_10 ?_
      obtain ⟨r2, h3, hf⟩ := o_bind hf
      refine cVv (rest := []) (wr := [(a_p0, .inr (6, [.ref z_text, .ref z_hall, .ref a_now, .ref z_trial, .ref z_hand, .ref a_acts, .ref z_slots, .ref z_seen, .int v_actCount, .int v_slotsKept, .long v_seed])), (a_now, .inr (2, [.ref a_now_off, .ref a_now_waited, .int v_now_nights])), (a_now_off, .inl (cI, 4, .inl v_now_off)), (a_now_waited, .inl (cI, 5, .inl v_now_waited))]) (wn := (cs_PR_remember cI cZ a_p0 a_now a_now_off a_now_waited a_acts a_acts_cells z_text z_hall z_trial z_hand z_slots z_seen v_actCount v_slotsKept v_seed v_now_nights v_now_off v_now_waited v_acts_places r2)) (c_Shelf_forgetFirst l D cI cZ a_acts a_acts_cells 140 v_acts_places v_acts_cells r2 h3) hC hA hP hD hS hl.1 cw_PR_233 4 rfl rfl rfl ⟨Nat.le_of_ble_eq_true rfl, Nat.le_of_ble_eq_true rfl⟩ rfl rfl (Nat.le_of_ble_eq_true rfl) d_PR_remember_13 ⟨Nat.zero_le _, Nat.zero_le _⟩ [4, 5] [0, 1, 2, 3] [0, 1, 2, 3, 4, 5] (by decide) (Cut_mk rfl rfl (by decide) (by decide) (by decide) rfl) (fun H locs hP hD hS => ?_)
      refine lv_aload_n hx hb d_PR_remember_16 rfl (lv_at hl 0 rfl) ?_
      refine lv_dup hx hb d_PR_remember_17 rfl ?_
      refine gf_PR_59 hC hP 0 rfl rfl d_PR_remember_18 ?_
      refine lv_iconst (v := 1) hx hb d_PR_remember_21 (by decide) ?_
      refine lv_isub hx hb d_PR_remember_22 ?_
      refine pf_PR_59 hC hP hD hS 0 rfl (Nat.le_of_ble_eq_true rfl) d_PR_remember_23 (fun H locs hP hD hS => ?_)
      have hP : va_P D classes (cs_PR_remember cI cZ a_p0 a_now a_now_off a_now_waited a_acts a_acts_cells z_text z_hall z_trial z_hand z_slots z_seen (v_actCount - 1) v_slotsKept v_seed v_now_nights v_now_off v_now_waited v_acts_places r2) H := hP
      have hD : va_D A (cs_PR_remember cI cZ a_p0 a_now a_now_off a_now_waited a_acts a_acts_cells z_text z_hall z_trial z_hand z_slots z_seen (v_actCount - 1) v_slotsKept v_seed v_now_nights v_now_off v_now_waited v_acts_places r2) := hD
      exact B_26 (v_actCount - 1) r2 _ _ _ hP hD hS (lv_sub hl [0] rfl) hf
  exact E _ _ hP hS
set_option maxHeartbeats 4000000 in
set_option maxRecDepth 100000 in
theorem c_PR_pass (l : Launch) (D : va_G) (cI cZ : ClassId) (a_p0 a_hall a_hall_layers a_hall_kinds a_hall_patiences a_hall_wanted a_hand a_hand_shown a_p1 a_p1_off a_p1_waited z_text z_now z_trial z_acts z_slots z_seen : Nat) (v_actCount : Int32) (v_slotsKept : Int32) (v_seed : Int64) (v_hall_count : Int32) (v_hall_layers : Nat → Int32) (v_hall_kinds : Nat → Int32) (v_hall_patiences : Nat → Int32) (v_hall_wanted : Nat → Int32) (v_hand_shown : Nat → Int32) (v_p1_nights : Int32) (v_p1_off : Nat → Int32) (v_p1_waited : Nat → Int32) (res : (Nat → Int32) × Int32 × (Nat → Int32)) (hf : f_PR_pass v_hall_count v_hall_layers v_hall_kinds v_hall_patiences v_hall_wanted v_p1_off v_hand_shown v_p1_nights v_p1_waited = some res) : CtV l y_PR_pass b_PR_pass 2 none 4 D cI cZ [.ref a_p0, .ref a_p1] (cs_PR_pass cI cZ a_p0 a_hall a_hall_layers a_hall_kinds a_hall_patiences a_hall_wanted a_hand a_hand_shown a_p1 a_p1_off a_p1_waited z_text z_now z_trial z_acts z_slots z_seen v_actCount v_slotsKept v_seed v_hall_count v_hall_layers v_hall_kinds v_hall_patiences v_hall_wanted v_hand_shown v_p1_nights v_p1_off v_p1_waited) (cs_PR_pass cI cZ a_p0 a_hall a_hall_layers a_hall_kinds a_hall_patiences a_hall_wanted a_hand a_hand_shown a_p1 a_p1_off a_p1_waited z_text z_now z_trial z_acts z_slots z_seen v_actCount v_slotsKept v_seed v_hall_count v_hall_layers v_hall_kinds v_hall_patiences v_hall_wanted res.1 res.2.1 v_p1_off res.2.2) := by
  refine CtV_mk (by decide) (Nat.le_of_ble_eq_true rfl) ?_
  intro p e s m args below meth c A Q hC hA hP hD RET ls hl
  have hC : Cx p s m args meth c b_PR_pass 2 R_PR D cI cZ := hC
  have hl : lv_has ls 2 [(0, .ref a_p0), (1, .ref a_p1)] := hl
  obtain ⟨hx, hb, hml, hown, hts, hlk, hKK⟩ := id hC
  have hS : va_S A s.heap s.heap [] := va_S.rf
  unfold f_PR_pass at hf
  have E : ∀ (H : Heap) (locs : List Loc), va_P D classes (cs_PR_pass cI cZ a_p0 a_hall a_hall_layers a_hall_kinds a_hall_patiences a_hall_wanted a_hand a_hand_shown a_p1 a_p1_off a_p1_waited z_text z_now z_trial z_acts z_slots z_seen v_actCount v_slotsKept v_seed v_hall_count v_hall_layers v_hall_kinds v_hall_patiences v_hall_wanted v_hand_shown v_p1_nights v_p1_off v_p1_waited) H → va_S A s.heap H locs → W p l e (rm_ 4 (40 * 4)) s m args below meth c H locs 0 0 Q (F0 m 0 ls []) := by
    intro H locs hP hS
    refine lv_aload_n hx hb d_PR_pass_0 rfl (lv_at hl 1 rfl) ?_
    refine lv_aload_n hx hb d_PR_pass_1 rfl (lv_at hl 0 rfl) ?_
    refine gf_PR_19 hC hP 0 rfl rfl d_PR_pass_2 ?_
    refine lv_aload_n hx hb d_PR_pass_5 rfl (lv_at hl 0 rfl) ?_
    refine lv_aload_n hx hb d_PR_pass_6 rfl (lv_at hl 1 rfl) ?_
    obtain ⟨r1, h2, hf⟩ := o_bind hf
    refine cVi (rest := [.ref a_hall, .ref a_p1]) (wr := [(a_hall_patiences, .inl (cI, 5, .inl v_hall_patiences)), (a_p1_waited, .inl (cI, 5, .inl v_p1_waited))]) (wn := (cs_PR_pass cI cZ a_p0 a_hall a_hall_layers a_hall_kinds a_hall_patiences a_hall_wanted a_hand a_hand_shown a_p1 a_p1_off a_p1_waited z_text z_now z_trial z_acts z_slots z_seen v_actCount v_slotsKept v_seed v_hall_count v_hall_layers v_hall_kinds v_hall_patiences v_hall_wanted r1.2 v_p1_nights v_p1_off v_p1_waited)) (c_PR_hailedIn l D cI cZ a_p0 a_hall a_hall_layers a_hall_kinds a_hall_wanted a_hand a_hand_shown a_p1 a_p1_off z_text z_now z_trial z_acts z_slots z_seen a_hall_patiences a_p1_waited v_actCount v_slotsKept v_seed v_hall_count v_hall_layers v_hall_kinds v_hall_wanted v_hand_shown v_p1_nights v_p1_off r1 h2) hC hA hP hD hS hl.1 cw_PR_97 0 rfl rfl rfl ⟨Nat.le_of_ble_eq_true rfl, Nat.le_of_ble_eq_true rfl⟩ rfl rfl (Nat.le_of_ble_eq_true rfl) d_PR_pass_7 ⟨Nat.zero_le _, Nat.zero_le _⟩ [0, 1, 2, 3, 5, 6, 7, 8, 9] [4, 10] [2, 3, 4, 5, 0, 6, 7, 8, 9, 10, 1] (by decide) (Cut_mk rfl rfl (by decide) (by decide) (by decide) rfl) (fun H locs hP hD hS => ?_)
    obtain ⟨r3, h4, hf⟩ := o_bind hf
    refine cVv (rest := []) (wr := [(a_p0, .inr (6, [.ref z_text, .ref a_hall, .ref z_now, .ref z_trial, .ref a_hand, .ref z_acts, .ref z_slots, .ref z_seen, .int v_actCount, .int v_slotsKept, .long v_seed])), (a_hall_layers, .inl (cI, 12, .inl v_hall_layers)), (a_hall_wanted, .inl (cI, 20, .inl v_hall_wanted)), (a_hand, .inr (1, [.ref a_hand_shown])), (a_hand_shown, .inl (cI, 4, .inl r1.2)), (a_p1_off, .inl (cI, 4, .inl v_p1_off))]) (wn := (cs_PR_pass cI cZ a_p0 a_hall a_hall_layers a_hall_kinds a_hall_patiences a_hall_wanted a_hand a_hand_shown a_p1 a_p1_off a_p1_waited z_text z_now z_trial z_acts z_slots z_seen v_actCount v_slotsKept v_seed v_hall_count v_hall_layers v_hall_kinds v_hall_patiences v_hall_wanted r1.2 r3.1 v_p1_off r3.2)) (c_Scene_pass l D cI cZ a_p1 a_p1_waited a_hall a_hall_kinds a_hall_patiences a_p1_off a_hall_layers a_hall_wanted r1.1 v_p1_nights v_p1_waited v_hall_count v_hall_kinds v_hall_patiences r3 h4) hC hA hP hD hS hl.1 cw_PR_244 8 rfl rfl rfl ⟨Nat.le_of_ble_eq_true rfl, Nat.le_of_ble_eq_true rfl⟩ rfl rfl (Nat.le_of_ble_eq_true rfl) d_PR_pass_10 ⟨Nat.zero_le _, Nat.zero_le _⟩ [8, 10, 1, 3, 4] [0, 2, 5, 6, 7, 9] [0, 8, 1, 9, 10, 2, 3, 4, 6, 5, 7] (by decide) (Cut_mk rfl rfl (by decide) (by decide) (by decide) rfl) (fun H locs hP hD hS => ?_)
    have hr := Option.some.inj hf
    exact RET _ _ _ _ _ (congrArg (fun r : (Nat → Int32) × Int32 × (Nat → Int32) => (cs_PR_pass cI cZ a_p0 a_hall a_hall_layers a_hall_kinds a_hall_patiences a_hall_wanted a_hand a_hand_shown a_p1 a_p1_off a_p1_waited z_text z_now z_trial z_acts z_slots z_seen v_actCount v_slotsKept v_seed v_hall_count v_hall_layers v_hall_kinds v_hall_patiences v_hall_wanted r.1 r.2.1 v_p1_off r.2.2)) hr) hP hD hS d_PR_pass_13
  exact E _ _ hP hS
set_option maxHeartbeats 4000000 in
set_option maxRecDepth 100000 in
theorem c_PR_night (l : Launch) (D : va_G) (cI cZ : ClassId) (a_p0 a_hall a_hall_layers a_hall_kinds a_hall_patiences a_hall_wanted a_now a_now_off a_now_waited a_hand a_hand_shown a_acts a_acts_cells z_text z_trial z_slots z_seen : Nat) (v_actCount : Int32) (v_slotsKept : Int32) (v_seed : Int64) (v_hall_count : Int32) (v_hall_layers : Nat → Int32) (v_hall_kinds : Nat → Int32) (v_hall_patiences : Nat → Int32) (v_hall_wanted : Nat → Int32) (v_now_nights : Int32) (v_now_off : Nat → Int32) (v_now_waited : Nat → Int32) (v_hand_shown : Nat → Int32) (v_acts_places : Int32) (v_acts_cells : Nat → Int32) (res : Int32 × Int32 × Int32 × (Nat → Int32) × (Nat → Int32) × (Nat → Int32)) (hf : f_PR_night v_hall_count v_hall_layers v_hall_kinds v_hall_patiences v_hall_wanted v_now_off v_acts_places v_actCount v_now_nights v_now_waited v_hand_shown v_acts_cells = some res) : CtI l y_PR_night b_PR_night 1 (some .int) 5 D cI cZ [.ref a_p0] (cs_PR_night cI cZ a_p0 a_hall a_hall_layers a_hall_kinds a_hall_patiences a_hall_wanted a_now a_now_off a_now_waited a_hand a_hand_shown a_acts a_acts_cells z_text z_trial z_slots z_seen v_actCount v_slotsKept v_seed v_hall_count v_hall_layers v_hall_kinds v_hall_patiences v_hall_wanted v_now_nights v_now_off v_now_waited v_hand_shown v_acts_places v_acts_cells) res.1 (cs_PR_night cI cZ a_p0 a_hall a_hall_layers a_hall_kinds a_hall_patiences a_hall_wanted a_now a_now_off a_now_waited a_hand a_hand_shown a_acts a_acts_cells z_text z_trial z_slots z_seen res.2.1 v_slotsKept v_seed v_hall_count v_hall_layers v_hall_kinds v_hall_patiences v_hall_wanted res.2.2.1 v_now_off res.2.2.2.1 res.2.2.2.2.1 v_acts_places res.2.2.2.2.2) := by
  refine CtI_mk (by decide) (Nat.le_of_ble_eq_true rfl) ?_
  intro p e s m args below meth c A Q hC hA hP hD RET ls hl
  have hC : Cx p s m args meth c b_PR_night 1 R_PR D cI cZ := hC
  have hl : lv_has ls 1 [(0, .ref a_p0)] := hl
  obtain ⟨hx, hb, hml, hown, hts, hlk, hKK⟩ := id hC
  have hS : va_S A s.heap s.heap [] := va_S.rf
  unfold f_PR_night at hf
  have E : ∀ (H : Heap) (locs : List Loc), va_P D classes (cs_PR_night cI cZ a_p0 a_hall a_hall_layers a_hall_kinds a_hall_patiences a_hall_wanted a_now a_now_off a_now_waited a_hand a_hand_shown a_acts a_acts_cells z_text z_trial z_slots z_seen v_actCount v_slotsKept v_seed v_hall_count v_hall_layers v_hall_kinds v_hall_patiences v_hall_wanted v_now_nights v_now_off v_now_waited v_hand_shown v_acts_places v_acts_cells) H → va_S A s.heap H locs → W p l e (rm_ 5 (40 * 5)) s m args below meth c H locs 0 0 Q (F0 m 0 ls []) := by
    intro H locs hP hS
    refine lv_aload_n hx hb d_PR_night_0 rfl (lv_at hl 0 rfl) ?_
    obtain ⟨r1, h2, hf⟩ := o_bind hf
    refine cVv (rest := []) (wr := [(a_hall, .inr (0, [.ref a_hall_layers, .ref a_hall_kinds, .ref a_hall_patiences, .ref a_hall_wanted, .int v_hall_count])), (a_hall_layers, .inl (cI, 12, .inl v_hall_layers)), (a_hall_kinds, .inl (cI, 5, .inl v_hall_kinds)), (a_hall_patiences, .inl (cI, 5, .inl v_hall_patiences)), (a_hall_wanted, .inl (cI, 20, .inl v_hall_wanted)), (a_hand, .inr (1, [.ref a_hand_shown])), (a_hand_shown, .inl (cI, 4, .inl v_hand_shown))]) (wn := (cs_PR_night cI cZ a_p0 a_hall a_hall_layers a_hall_kinds a_hall_patiences a_hall_wanted a_now a_now_off a_now_waited a_hand a_hand_shown a_acts a_acts_cells z_text z_trial z_slots z_seen r1.1 v_slotsKept v_seed v_hall_count v_hall_layers v_hall_kinds v_hall_patiences v_hall_wanted v_now_nights v_now_off v_now_waited v_hand_shown v_acts_places r1.2)) (c_PR_remember l D cI cZ a_p0 a_now a_now_off a_now_waited a_acts a_acts_cells z_text a_hall z_trial a_hand z_slots z_seen v_actCount v_slotsKept v_seed v_now_nights v_now_off v_now_waited v_acts_places v_acts_cells r1 h2) hC hA hP hD hS hl.1 cw_PR_134 0 rfl rfl rfl ⟨Nat.le_of_ble_eq_true rfl, Nat.le_of_ble_eq_true rfl⟩ rfl rfl (Nat.le_of_ble_eq_true rfl) d_PR_night_1 ⟨Nat.zero_le _, Nat.zero_le _⟩ [0, 6, 7, 8, 11, 12] [1, 2, 3, 4, 5, 9, 10] [7, 0, 1, 2, 3, 4, 8, 9, 10, 5, 6, 11, 12] (by decide) (Cut_mk rfl rfl (by decide) (by decide) (by decide) rfl) (fun H locs hP hD hS => ?_)
    refine lv_aload_n hx hb d_PR_night_4 rfl (lv_at hl 0 rfl) ?_
    refine lv_aload_n hx hb d_PR_night_5 rfl (lv_at hl 0 rfl) ?_
    refine gf_PR_26 hC hP 0 rfl rfl d_PR_night_6 ?_
    obtain ⟨r3, h4, hf⟩ := o_bind hf
    refine cVv (rest := []) (wr := [(a_acts, .inr (4, [.int v_acts_places, .ref a_acts_cells])), (a_acts_cells, .inl (cI, 140, .inl r1.2))]) (wn := (cs_PR_night cI cZ a_p0 a_hall a_hall_layers a_hall_kinds a_hall_patiences a_hall_wanted a_now a_now_off a_now_waited a_hand a_hand_shown a_acts a_acts_cells z_text z_trial z_slots z_seen r1.1 v_slotsKept v_seed v_hall_count v_hall_layers v_hall_kinds v_hall_patiences v_hall_wanted r3.2.1 v_now_off r3.2.2 r3.1 v_acts_places r1.2)) (c_PR_pass l D cI cZ a_p0 a_hall a_hall_layers a_hall_kinds a_hall_patiences a_hall_wanted a_hand a_hand_shown a_now a_now_off a_now_waited z_text a_now z_trial a_acts z_slots z_seen r1.1 v_slotsKept v_seed v_hall_count v_hall_layers v_hall_kinds v_hall_patiences v_hall_wanted v_hand_shown v_now_nights v_now_off v_now_waited r3 h4) hC hA hP hD hS hl.1 cw_PR_137 0 rfl rfl rfl ⟨Nat.le_of_ble_eq_true rfl, Nat.le_of_ble_eq_true rfl⟩ rfl rfl (Nat.le_of_ble_eq_true rfl) d_PR_night_9 ⟨Nat.zero_le _, Nat.zero_le _⟩ [0, 1, 2, 3, 4, 5, 9, 10, 6, 7, 8] [11, 12] [2, 3, 4, 5, 6, 7, 10, 11, 12, 8, 9, 0, 1] (by decide) (Cut_mk rfl rfl (by decide) (by decide) (by decide) rfl) (fun H locs hP hD hS => ?_)
    refine lv_aload_n hx hb d_PR_night_12 rfl (lv_at hl 0 rfl) ?_
    refine gf_PR_26 hC hP 0 rfl rfl d_PR_night_13 ?_
    obtain ⟨r5, h6, hf⟩ := o_bind hf
    refine cVi (rest := []) (wr := [(a_p0, .inr (6, [.ref z_text, .ref a_hall, .ref a_now, .ref z_trial, .ref a_hand, .ref a_acts, .ref z_slots, .ref z_seen, .int r1.1, .int v_slotsKept, .long v_seed])), (a_hall, .inr (0, [.ref a_hall_layers, .ref a_hall_kinds, .ref a_hall_patiences, .ref a_hall_wanted, .int v_hall_count])), (a_hall_layers, .inl (cI, 12, .inl v_hall_layers)), (a_hall_kinds, .inl (cI, 5, .inl v_hall_kinds)), (a_hall_patiences, .inl (cI, 5, .inl v_hall_patiences)), (a_hall_wanted, .inl (cI, 20, .inl v_hall_wanted)), (a_now_off, .inl (cI, 4, .inl v_now_off)), (a_hand, .inr (1, [.ref a_hand_shown])), (a_hand_shown, .inl (cI, 4, .inl r3.1)), (a_acts, .inr (4, [.int v_acts_places, .ref a_acts_cells])), (a_acts_cells, .inl (cI, 140, .inl r1.2))]) (wn := (cs_PR_night cI cZ a_p0 a_hall a_hall_layers a_hall_kinds a_hall_patiences a_hall_wanted a_now a_now_off a_now_waited a_hand a_hand_shown a_acts a_acts_cells z_text z_trial z_slots z_seen r1.1 v_slotsKept v_seed v_hall_count v_hall_layers v_hall_kinds v_hall_patiences v_hall_wanted r3.2.1 v_now_off r3.2.2 r3.1 v_acts_places r1.2)) (c_Scene_waiting l D cI cZ a_now a_now_waited a_now_off r3.2.1 r3.2.2 r5 h6) hC hA hP hD hS hl.1 cw_PR_91 6 rfl rfl rfl ⟨Nat.le_of_ble_eq_true rfl, Nat.le_of_ble_eq_true rfl⟩ rfl rfl (Nat.le_of_ble_eq_true rfl) d_PR_night_16 ⟨Nat.zero_le _, Nat.zero_le _⟩ [6, 8] [0, 1, 2, 3, 4, 5, 7, 9, 10, 11, 12] [0, 1, 2, 3, 4, 5, 11, 6, 12, 7, 8, 9, 10] (by decide) (Cut_mk rfl rfl (by decide) (by decide) (by decide) rfl) (fun H locs hP hD hS => ?_)
    obtain ⟨r7, h8, hf⟩ := o_bind hf
    refine cSi0 (rest := []) (c_Int_bitCount l D cI cZ r5 r7 h8) hC hA hP hD hS hl.1 cw_PR_141 ⟨Nat.le_of_ble_eq_true rfl, Nat.le_of_ble_eq_true rfl⟩ rfl rfl (Nat.le_of_ble_eq_true rfl) d_PR_night_19 ⟨Nat.zero_le _, Nat.zero_le _⟩ (fun H locs hP hS => ?_)
    have hr := Option.some.inj hf
    exact RET _ _ _ _ _ _ rfl (congrArg (fun r : Int32 × Int32 × Int32 × (Nat → Int32) × (Nat → Int32) × (Nat → Int32) => r.1) hr) (congrArg (fun r : Int32 × Int32 × Int32 × (Nat → Int32) × (Nat → Int32) × (Nat → Int32) => (cs_PR_night cI cZ a_p0 a_hall a_hall_layers a_hall_kinds a_hall_patiences a_hall_wanted a_now a_now_off a_now_waited a_hand a_hand_shown a_acts a_acts_cells z_text z_trial z_slots z_seen r.2.1 v_slotsKept v_seed v_hall_count v_hall_layers v_hall_kinds v_hall_patiences v_hall_wanted r.2.2.1 v_now_off r.2.2.2.1 r.2.2.2.2.1 v_acts_places r.2.2.2.2.2)) hr) hP hD hS d_PR_night_22
  exact E _ _ hP hS
set_option maxHeartbeats 4000000 in
set_option maxRecDepth 100000 in
theorem c_PR_clean (l : Launch) (D : va_G) (cI cZ : ClassId) (a_p0 a_hall a_hall_layers a_now a_now_off a_now_waited a_acts a_acts_cells z_text z_trial z_hand z_slots z_seen z_hall_kinds z_hall_patiences z_hall_wanted : Nat) (i1 : Int32) (v_actCount : Int32) (v_slotsKept : Int32) (v_seed : Int64) (v_hall_count : Int32) (v_hall_layers : Nat → Int32) (v_now_nights : Int32) (v_now_off : Nat → Int32) (v_now_waited : Nat → Int32) (v_acts_places : Int32) (v_acts_cells : Nat → Int32) (res : Int32 × Int32 × (Nat → Int32) × (Nat → Int32)) (hf : f_PR_clean i1 v_hall_layers v_now_nights v_now_waited v_acts_places v_actCount v_now_off v_acts_cells = some res) : CtI l y_PR_clean b_PR_clean 2 (some .int) 3 D cI cZ [.ref a_p0, .int i1] (cs_PR_clean cI cZ a_p0 a_hall a_hall_layers a_now a_now_off a_now_waited a_acts a_acts_cells z_text z_trial z_hand z_slots z_seen z_hall_kinds z_hall_patiences z_hall_wanted v_actCount v_slotsKept v_seed v_hall_count v_hall_layers v_now_nights v_now_off v_now_waited v_acts_places v_acts_cells) res.1 (cs_PR_clean cI cZ a_p0 a_hall a_hall_layers a_now a_now_off a_now_waited a_acts a_acts_cells z_text z_trial z_hand z_slots z_seen z_hall_kinds z_hall_patiences z_hall_wanted res.2.1 v_slotsKept v_seed v_hall_count v_hall_layers v_now_nights res.2.2.1 v_now_waited v_acts_places res.2.2.2) := by
  refine CtI_mk (by decide) (Nat.le_of_ble_eq_true rfl) ?_
  intro p e s m args below meth c A Q hC hA hP hD RET ls hl
  have hC : Cx p s m args meth c b_PR_clean 2 R_PR D cI cZ := hC
  have hl : lv_has ls 2 [(0, .ref a_p0), (1, .int i1)] := hl
  obtain ⟨hx, hb, hml, hown, hts, hlk, hKK⟩ := id hC
  have hS : va_S A s.heap s.heap [] := va_S.rf
  unfold f_PR_clean at hf
  have E : ∀ (H : Heap) (locs : List Loc), va_P D classes (cs_PR_clean cI cZ a_p0 a_hall a_hall_layers a_now a_now_off a_now_waited a_acts a_acts_cells z_text z_trial z_hand z_slots z_seen z_hall_kinds z_hall_patiences z_hall_wanted v_actCount v_slotsKept v_seed v_hall_count v_hall_layers v_now_nights v_now_off v_now_waited v_acts_places v_acts_cells) H → va_S A s.heap H locs → W p l e (rm_ 3 (40 * 3)) s m args below meth c H locs 0 0 Q (F0 m 0 ls []) := by
    intro H locs hP hS
    refine lv_iload_n hx hb d_PR_clean_0 rfl (lv_at hl 1 rfl) ?_
    obtain ⟨r1, h2, hf⟩ := o_bind hf
    refine cSi0 (rest := []) (c_PR_isFinger l D cI cZ i1 r1 h2) hC hA hP hD hS hl.1 cw_PR_105 ⟨Nat.le_of_ble_eq_true rfl, Nat.le_of_ble_eq_true rfl⟩ rfl rfl (Nat.le_of_ble_eq_true rfl) d_PR_clean_1 ⟨Nat.zero_le _, Nat.zero_le _⟩ (fun H locs hP hS => ?_)
    refine lv_if_ne (tgt := 9) hx hb d_PR_clean_4 (by decide) (fun c3 => ?_) (fun c3 => ?_)
    · have hf := o_neg c3 hf
      refine lv_aload_n hx hb d_PR_clean_9 rfl (lv_at hl 0 rfl) ?_
      refine gf_PR_26 hC hP 0 rfl rfl d_PR_clean_10 ?_
      refine lv_iload_n hx hb d_PR_clean_13 rfl (lv_at hl 1 rfl) ?_
      obtain ⟨r4, h5, hf⟩ := o_bind hf
      refine cVi (rest := []) (wr := [(a_p0, .inr (6, [.ref z_text, .ref a_hall, .ref a_now, .ref z_trial, .ref z_hand, .ref a_acts, .ref z_slots, .ref z_seen, .int v_actCount, .int v_slotsKept, .long v_seed])), (a_hall, .inr (0, [.ref a_hall_layers, .ref z_hall_kinds, .ref z_hall_patiences, .ref z_hall_wanted, .int v_hall_count])), (a_hall_layers, .inl (cI, 12, .inl v_hall_layers)), (a_now_waited, .inl (cI, 5, .inl v_now_waited)), (a_acts, .inr (4, [.int v_acts_places, .ref a_acts_cells])), (a_acts_cells, .inl (cI, 140, .inl v_acts_cells))]) (wn := (cs_PR_clean cI cZ a_p0 a_hall a_hall_layers a_now a_now_off a_now_waited a_acts a_acts_cells z_text z_trial z_hand z_slots z_seen z_hall_kinds z_hall_patiences z_hall_wanted v_actCount v_slotsKept v_seed v_hall_count v_hall_layers v_now_nights v_now_off v_now_waited v_acts_places v_acts_cells)) (c_Scene_canTakeOff l D cI cZ a_now a_now_off a_now_waited i1 v_now_nights v_now_off r4 h5) hC hA hP hD hS hl.1 cw_PR_146 3 rfl rfl rfl ⟨Nat.le_of_ble_eq_true rfl, Nat.le_of_ble_eq_true rfl⟩ rfl rfl (Nat.le_of_ble_eq_true rfl) d_PR_clean_14 ⟨Nat.zero_le _, Nat.zero_le _⟩ [3, 4] [0, 1, 2, 5, 6, 7] [0, 1, 2, 6, 7, 3, 4, 5] (by decide) (Cut_mk rfl rfl (by decide) (by decide) (by decide) rfl) (fun H locs hP hD hS => ?_)
      refine lv_if_ne (tgt := 23) hx hb d_PR_clean_17 (by decide) (fun c6 => ?_) (fun c6 => ?_)
      · have hf := o_neg c6 hf
        refine lv_aload_n hx hb d_PR_clean_23 rfl (lv_at hl 0 rfl) ?_
        obtain ⟨r7, h8, hf⟩ := o_bind hf
        refine cVv (rest := []) (wr := [(a_hall, .inr (0, [.ref a_hall_layers, .ref z_hall_kinds, .ref z_hall_patiences, .ref z_hall_wanted, .int v_hall_count])), (a_hall_layers, .inl (cI, 12, .inl v_hall_layers))]) (wn := (cs_PR_clean cI cZ a_p0 a_hall a_hall_layers a_now a_now_off a_now_waited a_acts a_acts_cells z_text z_trial z_hand z_slots z_seen z_hall_kinds z_hall_patiences z_hall_wanted r7.1 v_slotsKept v_seed v_hall_count v_hall_layers v_now_nights v_now_off v_now_waited v_acts_places r7.2)) (c_PR_remember l D cI cZ a_p0 a_now a_now_off a_now_waited a_acts a_acts_cells z_text a_hall z_trial z_hand z_slots z_seen v_actCount v_slotsKept v_seed v_now_nights v_now_off v_now_waited v_acts_places v_acts_cells r7 h8) hC hA hP hD hS hl.1 cw_PR_134 0 rfl rfl rfl ⟨Nat.le_of_ble_eq_true rfl, Nat.le_of_ble_eq_true rfl⟩ rfl rfl (Nat.le_of_ble_eq_true rfl) d_PR_clean_24 ⟨Nat.zero_le _, Nat.zero_le _⟩ [0, 3, 4, 5, 6, 7] [1, 2] [2, 0, 1, 3, 4, 5, 6, 7] (by decide) (Cut_mk rfl rfl (by decide) (by decide) (by decide) rfl) (fun H locs hP hD hS => ?_)
        refine lv_aload_n hx hb d_PR_clean_27 rfl (lv_at hl 0 rfl) ?_
        refine gf_PR_26 hC hP 0 rfl rfl d_PR_clean_28 ?_
        refine lv_iload_n hx hb d_PR_clean_31 rfl (lv_at hl 1 rfl) ?_
        obtain ⟨r9, h10, hf⟩ := o_bind hf
        refine cVi (rest := []) (wr := [(a_p0, .inr (6, [.ref z_text, .ref a_hall, .ref a_now, .ref z_trial, .ref z_hand, .ref a_acts, .ref z_slots, .ref z_seen, .int r7.1, .int v_slotsKept, .long v_seed])), (a_hall, .inr (0, [.ref a_hall_layers, .ref z_hall_kinds, .ref z_hall_patiences, .ref z_hall_wanted, .int v_hall_count])), (a_hall_layers, .inl (cI, 12, .inl v_hall_layers)), (a_now_waited, .inl (cI, 5, .inl v_now_waited)), (a_acts, .inr (4, [.int v_acts_places, .ref a_acts_cells])), (a_acts_cells, .inl (cI, 140, .inl r7.2))]) (wn := (cs_PR_clean cI cZ a_p0 a_hall a_hall_layers a_now a_now_off a_now_waited a_acts a_acts_cells z_text z_trial z_hand z_slots z_seen z_hall_kinds z_hall_patiences z_hall_wanted r7.1 v_slotsKept v_seed v_hall_count v_hall_layers v_now_nights r9.2 v_now_waited v_acts_places r7.2)) (c_Scene_takeOff l D cI cZ a_now a_now_off a_now_waited i1 v_now_nights v_now_off r9 h10) hC hA hP hD hS hl.1 cw_PR_149 3 rfl rfl rfl ⟨Nat.le_of_ble_eq_true rfl, Nat.le_of_ble_eq_true rfl⟩ rfl rfl (Nat.le_of_ble_eq_true rfl) d_PR_clean_32 ⟨Nat.zero_le _, Nat.zero_le _⟩ [3, 4] [0, 1, 2, 5, 6, 7] [0, 1, 2, 6, 7, 3, 4, 5] (by decide) (Cut_mk rfl rfl (by decide) (by decide) (by decide) rfl) (fun H locs hP hD hS => ?_)
        refine lv_pop hx hb d_PR_clean_35 rfl ?_
        refine lv_aload_n hx hb d_PR_clean_36 rfl (lv_at hl 0 rfl) ?_
        refine lv_iload_n hx hb d_PR_clean_37 rfl (lv_at hl 1 rfl) ?_
        obtain ⟨r11, h12, hf⟩ := o_bind hf
        refine cVi (rest := []) (wr := [(a_now_waited, .inl (cI, 5, .inl v_now_waited)), (a_acts, .inr (4, [.int v_acts_places, .ref a_acts_cells])), (a_acts_cells, .inl (cI, 140, .inl r7.2))]) (wn := (cs_PR_clean cI cZ a_p0 a_hall a_hall_layers a_now a_now_off a_now_waited a_acts a_acts_cells z_text z_trial z_hand z_slots z_seen z_hall_kinds z_hall_patiences z_hall_wanted r7.1 v_slotsKept v_seed v_hall_count v_hall_layers v_now_nights r9.2 v_now_waited v_acts_places r7.2)) (c_PR_shown l D cI cZ a_p0 a_hall a_hall_layers a_now a_now_off z_text z_trial z_hand a_acts z_slots z_seen z_hall_kinds z_hall_patiences z_hall_wanted a_now_waited i1 r7.1 v_slotsKept v_seed v_hall_count v_hall_layers v_now_nights r9.2 r11 h12) hC hA hP hD hS hl.1 cw_PR_116 0 rfl rfl rfl ⟨Nat.le_of_ble_eq_true rfl, Nat.le_of_ble_eq_true rfl⟩ rfl rfl (Nat.le_of_ble_eq_true rfl) d_PR_clean_38 ⟨Nat.zero_le _, Nat.zero_le _⟩ [0, 1, 2, 3, 4] [5, 6, 7] [3, 4, 5, 6, 7, 0, 1, 2] (by decide) (Cut_mk rfl rfl (by decide) (by decide) (by decide) rfl) (fun H locs hP hD hS => ?_)
        have hr := Option.some.inj hf
        exact RET _ _ _ _ _ _ rfl (congrArg (fun r : Int32 × Int32 × (Nat → Int32) × (Nat → Int32) => r.1) hr) (congrArg (fun r : Int32 × Int32 × (Nat → Int32) × (Nat → Int32) => (cs_PR_clean cI cZ a_p0 a_hall a_hall_layers a_now a_now_off a_now_waited a_acts a_acts_cells z_text z_trial z_hand z_slots z_seen z_hall_kinds z_hall_patiences z_hall_wanted r.2.1 v_slotsKept v_seed v_hall_count v_hall_layers v_now_nights r.2.2.1 v_now_waited v_acts_places r.2.2.2)) hr) hP hD hS d_PR_clean_41
      · have hf := o_pos c6 hf
        refine lv_bipush (v := (-3)) hx hb d_PR_clean_20 (by decide) ?_
        have hr := Option.some.inj hf
        exact RET _ _ _ _ _ _ rfl (congrArg (fun r : Int32 × Int32 × (Nat → Int32) × (Nat → Int32) => r.1) hr) (congrArg (fun r : Int32 × Int32 × (Nat → Int32) × (Nat → Int32) => (cs_PR_clean cI cZ a_p0 a_hall a_hall_layers a_now a_now_off a_now_waited a_acts a_acts_cells z_text z_trial z_hand z_slots z_seen z_hall_kinds z_hall_patiences z_hall_wanted r.2.1 v_slotsKept v_seed v_hall_count v_hall_layers v_now_nights r.2.2.1 v_now_waited v_acts_places r.2.2.2)) hr) hP hD hS d_PR_clean_22
    · have hf := o_pos c3 hf
      refine lv_iconst (v := (-1)) hx hb d_PR_clean_7 (by decide) ?_
      have hr := Option.some.inj hf
      exact RET _ _ _ _ _ _ rfl (congrArg (fun r : Int32 × Int32 × (Nat → Int32) × (Nat → Int32) => r.1) hr) (congrArg (fun r : Int32 × Int32 × (Nat → Int32) × (Nat → Int32) => (cs_PR_clean cI cZ a_p0 a_hall a_hall_layers a_now a_now_off a_now_waited a_acts a_acts_cells z_text z_trial z_hand z_slots z_seen z_hall_kinds z_hall_patiences z_hall_wanted r.2.1 v_slotsKept v_seed v_hall_count v_hall_layers v_now_nights r.2.2.1 v_now_waited v_acts_places r.2.2.2)) hr) hP hD hS d_PR_clean_8
  exact E _ _ hP hS
set_option maxHeartbeats 4000000 in
set_option maxRecDepth 100000 in
theorem c_PR_paint (l : Launch) (D : va_G) (cI cZ : ClassId) (a_p0 a_hall a_hall_layers a_now a_now_off a_now_waited a_acts a_acts_cells z_text z_trial z_hand z_slots z_seen z_hall_kinds z_hall_patiences z_hall_wanted : Nat) (i1 : Int32) (v_actCount : Int32) (v_slotsKept : Int32) (v_seed : Int64) (v_hall_count : Int32) (v_hall_layers : Nat → Int32) (v_now_nights : Int32) (v_now_off : Nat → Int32) (v_now_waited : Nat → Int32) (v_acts_places : Int32) (v_acts_cells : Nat → Int32) (res : Int32 × Int32 × (Nat → Int32) × (Nat → Int32)) (hf : f_PR_paint i1 v_hall_layers v_now_nights v_now_waited v_acts_places v_actCount v_now_off v_acts_cells = some res) : CtI l y_PR_paint b_PR_paint 2 (some .int) 3 D cI cZ [.ref a_p0, .int i1] (cs_PR_paint cI cZ a_p0 a_hall a_hall_layers a_now a_now_off a_now_waited a_acts a_acts_cells z_text z_trial z_hand z_slots z_seen z_hall_kinds z_hall_patiences z_hall_wanted v_actCount v_slotsKept v_seed v_hall_count v_hall_layers v_now_nights v_now_off v_now_waited v_acts_places v_acts_cells) res.1 (cs_PR_paint cI cZ a_p0 a_hall a_hall_layers a_now a_now_off a_now_waited a_acts a_acts_cells z_text z_trial z_hand z_slots z_seen z_hall_kinds z_hall_patiences z_hall_wanted res.2.1 v_slotsKept v_seed v_hall_count v_hall_layers v_now_nights res.2.2.1 v_now_waited v_acts_places res.2.2.2) := by
  refine CtI_mk (by decide) (Nat.le_of_ble_eq_true rfl) ?_
  intro p e s m args below meth c A Q hC hA hP hD RET ls hl
  have hC : Cx p s m args meth c b_PR_paint 2 R_PR D cI cZ := hC
  have hl : lv_has ls 2 [(0, .ref a_p0), (1, .int i1)] := hl
  obtain ⟨hx, hb, hml, hown, hts, hlk, hKK⟩ := id hC
  have hS : va_S A s.heap s.heap [] := va_S.rf
  unfold f_PR_paint at hf
  have E : ∀ (H : Heap) (locs : List Loc), va_P D classes (cs_PR_paint cI cZ a_p0 a_hall a_hall_layers a_now a_now_off a_now_waited a_acts a_acts_cells z_text z_trial z_hand z_slots z_seen z_hall_kinds z_hall_patiences z_hall_wanted v_actCount v_slotsKept v_seed v_hall_count v_hall_layers v_now_nights v_now_off v_now_waited v_acts_places v_acts_cells) H → va_S A s.heap H locs → W p l e (rm_ 3 (40 * 3)) s m args below meth c H locs 0 0 Q (F0 m 0 ls []) := by
    intro H locs hP hS
    refine lv_iload_n hx hb d_PR_paint_0 rfl (lv_at hl 1 rfl) ?_
    obtain ⟨r1, h2, hf⟩ := o_bind hf
    refine cSi0 (rest := []) (c_PR_isFinger l D cI cZ i1 r1 h2) hC hA hP hD hS hl.1 cw_PR_105 ⟨Nat.le_of_ble_eq_true rfl, Nat.le_of_ble_eq_true rfl⟩ rfl rfl (Nat.le_of_ble_eq_true rfl) d_PR_paint_1 ⟨Nat.zero_le _, Nat.zero_le _⟩ (fun H locs hP hS => ?_)
    refine lv_if_ne (tgt := 9) hx hb d_PR_paint_4 (by decide) (fun c3 => ?_) (fun c3 => ?_)
    · have hf := o_neg c3 hf
      refine lv_aload_n hx hb d_PR_paint_9 rfl (lv_at hl 0 rfl) ?_
      refine gf_PR_26 hC hP 0 rfl rfl d_PR_paint_10 ?_
      refine lv_iload_n hx hb d_PR_paint_13 rfl (lv_at hl 1 rfl) ?_
      obtain ⟨r4, h5, hf⟩ := o_bind hf
      refine cVi (rest := []) (wr := [(a_p0, .inr (6, [.ref z_text, .ref a_hall, .ref a_now, .ref z_trial, .ref z_hand, .ref a_acts, .ref z_slots, .ref z_seen, .int v_actCount, .int v_slotsKept, .long v_seed])), (a_hall, .inr (0, [.ref a_hall_layers, .ref z_hall_kinds, .ref z_hall_patiences, .ref z_hall_wanted, .int v_hall_count])), (a_hall_layers, .inl (cI, 12, .inl v_hall_layers)), (a_now_waited, .inl (cI, 5, .inl v_now_waited)), (a_acts, .inr (4, [.int v_acts_places, .ref a_acts_cells])), (a_acts_cells, .inl (cI, 140, .inl v_acts_cells))]) (wn := (cs_PR_paint cI cZ a_p0 a_hall a_hall_layers a_now a_now_off a_now_waited a_acts a_acts_cells z_text z_trial z_hand z_slots z_seen z_hall_kinds z_hall_patiences z_hall_wanted v_actCount v_slotsKept v_seed v_hall_count v_hall_layers v_now_nights v_now_off v_now_waited v_acts_places v_acts_cells)) (c_Scene_canPutOn l D cI cZ a_now a_now_off a_now_waited i1 v_now_nights v_now_off r4 h5) hC hA hP hD hS hl.1 cw_PR_152 3 rfl rfl rfl ⟨Nat.le_of_ble_eq_true rfl, Nat.le_of_ble_eq_true rfl⟩ rfl rfl (Nat.le_of_ble_eq_true rfl) d_PR_paint_14 ⟨Nat.zero_le _, Nat.zero_le _⟩ [3, 4] [0, 1, 2, 5, 6, 7] [0, 1, 2, 6, 7, 3, 4, 5] (by decide) (Cut_mk rfl rfl (by decide) (by decide) (by decide) rfl) (fun H locs hP hD hS => ?_)
      refine lv_if_ne (tgt := 23) hx hb d_PR_paint_17 (by decide) (fun c6 => ?_) (fun c6 => ?_)
      · have hf := o_neg c6 hf
        refine lv_aload_n hx hb d_PR_paint_23 rfl (lv_at hl 0 rfl) ?_
        obtain ⟨r7, h8, hf⟩ := o_bind hf
        refine cVv (rest := []) (wr := [(a_hall, .inr (0, [.ref a_hall_layers, .ref z_hall_kinds, .ref z_hall_patiences, .ref z_hall_wanted, .int v_hall_count])), (a_hall_layers, .inl (cI, 12, .inl v_hall_layers))]) (wn := (cs_PR_paint cI cZ a_p0 a_hall a_hall_layers a_now a_now_off a_now_waited a_acts a_acts_cells z_text z_trial z_hand z_slots z_seen z_hall_kinds z_hall_patiences z_hall_wanted r7.1 v_slotsKept v_seed v_hall_count v_hall_layers v_now_nights v_now_off v_now_waited v_acts_places r7.2)) (c_PR_remember l D cI cZ a_p0 a_now a_now_off a_now_waited a_acts a_acts_cells z_text a_hall z_trial z_hand z_slots z_seen v_actCount v_slotsKept v_seed v_now_nights v_now_off v_now_waited v_acts_places v_acts_cells r7 h8) hC hA hP hD hS hl.1 cw_PR_134 0 rfl rfl rfl ⟨Nat.le_of_ble_eq_true rfl, Nat.le_of_ble_eq_true rfl⟩ rfl rfl (Nat.le_of_ble_eq_true rfl) d_PR_paint_24 ⟨Nat.zero_le _, Nat.zero_le _⟩ [0, 3, 4, 5, 6, 7] [1, 2] [2, 0, 1, 3, 4, 5, 6, 7] (by decide) (Cut_mk rfl rfl (by decide) (by decide) (by decide) rfl) (fun H locs hP hD hS => ?_)
        refine lv_aload_n hx hb d_PR_paint_27 rfl (lv_at hl 0 rfl) ?_
        refine gf_PR_26 hC hP 0 rfl rfl d_PR_paint_28 ?_
        refine lv_iload_n hx hb d_PR_paint_31 rfl (lv_at hl 1 rfl) ?_
        obtain ⟨r9, h10, hf⟩ := o_bind hf
        refine cVi (rest := []) (wr := [(a_p0, .inr (6, [.ref z_text, .ref a_hall, .ref a_now, .ref z_trial, .ref z_hand, .ref a_acts, .ref z_slots, .ref z_seen, .int r7.1, .int v_slotsKept, .long v_seed])), (a_hall, .inr (0, [.ref a_hall_layers, .ref z_hall_kinds, .ref z_hall_patiences, .ref z_hall_wanted, .int v_hall_count])), (a_hall_layers, .inl (cI, 12, .inl v_hall_layers)), (a_now_waited, .inl (cI, 5, .inl v_now_waited)), (a_acts, .inr (4, [.int v_acts_places, .ref a_acts_cells])), (a_acts_cells, .inl (cI, 140, .inl r7.2))]) (wn := (cs_PR_paint cI cZ a_p0 a_hall a_hall_layers a_now a_now_off a_now_waited a_acts a_acts_cells z_text z_trial z_hand z_slots z_seen z_hall_kinds z_hall_patiences z_hall_wanted r7.1 v_slotsKept v_seed v_hall_count v_hall_layers v_now_nights r9.2 v_now_waited v_acts_places r7.2)) (c_Scene_putOn l D cI cZ a_now a_now_off a_now_waited i1 v_now_nights v_now_off r9 h10) hC hA hP hD hS hl.1 cw_PR_155 3 rfl rfl rfl ⟨Nat.le_of_ble_eq_true rfl, Nat.le_of_ble_eq_true rfl⟩ rfl rfl (Nat.le_of_ble_eq_true rfl) d_PR_paint_32 ⟨Nat.zero_le _, Nat.zero_le _⟩ [3, 4] [0, 1, 2, 5, 6, 7] [0, 1, 2, 6, 7, 3, 4, 5] (by decide) (Cut_mk rfl rfl (by decide) (by decide) (by decide) rfl) (fun H locs hP hD hS => ?_)
        refine lv_pop hx hb d_PR_paint_35 rfl ?_
        refine lv_aload_n hx hb d_PR_paint_36 rfl (lv_at hl 0 rfl) ?_
        refine lv_iload_n hx hb d_PR_paint_37 rfl (lv_at hl 1 rfl) ?_
        obtain ⟨r11, h12, hf⟩ := o_bind hf
        refine cVi (rest := []) (wr := [(a_now_waited, .inl (cI, 5, .inl v_now_waited)), (a_acts, .inr (4, [.int v_acts_places, .ref a_acts_cells])), (a_acts_cells, .inl (cI, 140, .inl r7.2))]) (wn := (cs_PR_paint cI cZ a_p0 a_hall a_hall_layers a_now a_now_off a_now_waited a_acts a_acts_cells z_text z_trial z_hand z_slots z_seen z_hall_kinds z_hall_patiences z_hall_wanted r7.1 v_slotsKept v_seed v_hall_count v_hall_layers v_now_nights r9.2 v_now_waited v_acts_places r7.2)) (c_PR_shown l D cI cZ a_p0 a_hall a_hall_layers a_now a_now_off z_text z_trial z_hand a_acts z_slots z_seen z_hall_kinds z_hall_patiences z_hall_wanted a_now_waited i1 r7.1 v_slotsKept v_seed v_hall_count v_hall_layers v_now_nights r9.2 r11 h12) hC hA hP hD hS hl.1 cw_PR_116 0 rfl rfl rfl ⟨Nat.le_of_ble_eq_true rfl, Nat.le_of_ble_eq_true rfl⟩ rfl rfl (Nat.le_of_ble_eq_true rfl) d_PR_paint_38 ⟨Nat.zero_le _, Nat.zero_le _⟩ [0, 1, 2, 3, 4] [5, 6, 7] [3, 4, 5, 6, 7, 0, 1, 2] (by decide) (Cut_mk rfl rfl (by decide) (by decide) (by decide) rfl) (fun H locs hP hD hS => ?_)
        have hr := Option.some.inj hf
        exact RET _ _ _ _ _ _ rfl (congrArg (fun r : Int32 × Int32 × (Nat → Int32) × (Nat → Int32) => r.1) hr) (congrArg (fun r : Int32 × Int32 × (Nat → Int32) × (Nat → Int32) => (cs_PR_paint cI cZ a_p0 a_hall a_hall_layers a_now a_now_off a_now_waited a_acts a_acts_cells z_text z_trial z_hand z_slots z_seen z_hall_kinds z_hall_patiences z_hall_wanted r.2.1 v_slotsKept v_seed v_hall_count v_hall_layers v_now_nights r.2.2.1 v_now_waited v_acts_places r.2.2.2)) hr) hP hD hS d_PR_paint_41
      · have hf := o_pos c6 hf
        refine lv_bipush (v := (-3)) hx hb d_PR_paint_20 (by decide) ?_
        have hr := Option.some.inj hf
        exact RET _ _ _ _ _ _ rfl (congrArg (fun r : Int32 × Int32 × (Nat → Int32) × (Nat → Int32) => r.1) hr) (congrArg (fun r : Int32 × Int32 × (Nat → Int32) × (Nat → Int32) => (cs_PR_paint cI cZ a_p0 a_hall a_hall_layers a_now a_now_off a_now_waited a_acts a_acts_cells z_text z_trial z_hand z_slots z_seen z_hall_kinds z_hall_patiences z_hall_wanted r.2.1 v_slotsKept v_seed v_hall_count v_hall_layers v_now_nights r.2.2.1 v_now_waited v_acts_places r.2.2.2)) hr) hP hD hS d_PR_paint_22
    · have hf := o_pos c3 hf
      refine lv_iconst (v := (-1)) hx hb d_PR_paint_7 (by decide) ?_
      have hr := Option.some.inj hf
      exact RET _ _ _ _ _ _ rfl (congrArg (fun r : Int32 × Int32 × (Nat → Int32) × (Nat → Int32) => r.1) hr) (congrArg (fun r : Int32 × Int32 × (Nat → Int32) × (Nat → Int32) => (cs_PR_paint cI cZ a_p0 a_hall a_hall_layers a_now a_now_off a_now_waited a_acts a_acts_cells z_text z_trial z_hand z_slots z_seen z_hall_kinds z_hall_patiences z_hall_wanted r.2.1 v_slotsKept v_seed v_hall_count v_hall_layers v_now_nights r.2.2.1 v_now_waited v_acts_places r.2.2.2)) hr) hP hD hS d_PR_paint_8
  exact E _ _ hP hS
set_option maxHeartbeats 4000000 in
set_option maxRecDepth 100000 in
theorem c_PR_send (l : Launch) (D : va_G) (cI cZ : ClassId) (a_p0 a_now a_now_off a_now_waited a_acts a_acts_cells z_text z_hall z_trial z_hand z_slots z_seen : Nat) (v_actCount : Int32) (v_slotsKept : Int32) (v_seed : Int64) (v_now_nights : Int32) (v_now_off : Nat → Int32) (v_now_waited : Nat → Int32) (v_acts_places : Int32) (v_acts_cells : Nat → Int32) (res : Int32 × Int32 × (Nat → Int32) × (Nat → Int32)) (hf : f_PR_send v_now_nights v_now_off v_acts_places v_actCount v_now_waited v_acts_cells = some res) : CtI l y_PR_send b_PR_send 2 (some .int) 3 D cI cZ [.ref a_p0] (cs_PR_send cI cZ a_p0 a_now a_now_off a_now_waited a_acts a_acts_cells z_text z_hall z_trial z_hand z_slots z_seen v_actCount v_slotsKept v_seed v_now_nights v_now_off v_now_waited v_acts_places v_acts_cells) res.1 (cs_PR_send cI cZ a_p0 a_now a_now_off a_now_waited a_acts a_acts_cells z_text z_hall z_trial z_hand z_slots z_seen res.2.1 v_slotsKept v_seed v_now_nights v_now_off res.2.2.1 v_acts_places res.2.2.2) := by
  refine CtI_mk (by decide) (Nat.le_of_ble_eq_true rfl) ?_
  intro p e s m args below meth c A Q hC hA hP hD RET ls hl
  have hC : Cx p s m args meth c b_PR_send 2 R_PR D cI cZ := hC
  have hl : lv_has ls 2 [(0, .ref a_p0)] := hl
  obtain ⟨hx, hb, hml, hown, hts, hlk, hKK⟩ := id hC
  have hS : va_S A s.heap s.heap [] := va_S.rf
  unfold f_PR_send at hf
  have E : ∀ (H : Heap) (locs : List Loc), va_P D classes (cs_PR_send cI cZ a_p0 a_now a_now_off a_now_waited a_acts a_acts_cells z_text z_hall z_trial z_hand z_slots z_seen v_actCount v_slotsKept v_seed v_now_nights v_now_off v_now_waited v_acts_places v_acts_cells) H → va_S A s.heap H locs → W p l e (rm_ 3 (40 * 3)) s m args below meth c H locs 0 0 Q (F0 m 0 ls []) := by
    intro H locs hP hS
    refine lv_aload_n hx hb d_PR_send_0 rfl (lv_at hl 0 rfl) ?_
    refine gf_PR_26 hC hP 0 rfl rfl d_PR_send_1 ?_
    obtain ⟨r1, h2, hf⟩ := o_bind hf
    refine cVi (rest := []) (wr := [(a_p0, .inr (6, [.ref z_text, .ref z_hall, .ref a_now, .ref z_trial, .ref z_hand, .ref a_acts, .ref z_slots, .ref z_seen, .int v_actCount, .int v_slotsKept, .long v_seed])), (a_now_off, .inl (cI, 4, .inl v_now_off)), (a_acts, .inr (4, [.int v_acts_places, .ref a_acts_cells])), (a_acts_cells, .inl (cI, 140, .inl v_acts_cells))]) (wn := (cs_PR_send cI cZ a_p0 a_now a_now_off a_now_waited a_acts a_acts_cells z_text z_hall z_trial z_hand z_slots z_seen v_actCount v_slotsKept v_seed v_now_nights v_now_off v_now_waited v_acts_places v_acts_cells)) (c_Scene_first l D cI cZ a_now a_now_waited a_now_off v_now_nights v_now_waited r1 h2) hC hA hP hD hS hl.1 cw_PR_158 1 rfl rfl rfl ⟨Nat.le_of_ble_eq_true rfl, Nat.le_of_ble_eq_true rfl⟩ rfl rfl (Nat.le_of_ble_eq_true rfl) d_PR_send_4 ⟨Nat.zero_le _, Nat.zero_le _⟩ [1, 3] [0, 2, 4, 5] [0, 4, 1, 5, 2, 3] (by decide) (Cut_mk rfl rfl (by decide) (by decide) (by decide) rfl) (fun H locs hP hD hS => ?_)
    refine lv_istore_n (lv' := [(1, .int r1), (0, .ref a_p0)]) hx hb d_PR_send_7 rfl hl (by decide) rfl (fun ls hl => ?_)
    refine lv_iload_n hx hb d_PR_send_8 rfl (lv_at hl 0 rfl) ?_
    refine lv_bipush (v := (-9)) hx hb d_PR_send_9 (by decide) ?_
    refine lv_icmp_ne (tgt := 17) hx hb d_PR_send_11 (by decide) (fun c3 => ?_) (fun c3 => ?_)
    · have hf := o_neg c3 hf
      refine lv_aload_n hx hb d_PR_send_17 rfl (lv_at hl 1 rfl) ?_
      obtain ⟨r4, h5, hf⟩ := o_bind hf
      refine cVv (rest := []) (wr := []) (wn := (cs_PR_send cI cZ a_p0 a_now a_now_off a_now_waited a_acts a_acts_cells z_text z_hall z_trial z_hand z_slots z_seen r4.1 v_slotsKept v_seed v_now_nights v_now_off v_now_waited v_acts_places r4.2)) (c_PR_remember l D cI cZ a_p0 a_now a_now_off a_now_waited a_acts a_acts_cells z_text z_hall z_trial z_hand z_slots z_seen v_actCount v_slotsKept v_seed v_now_nights v_now_off v_now_waited v_acts_places v_acts_cells r4 h5) hC hA hP hD hS hl.1 cw_PR_134 0 rfl rfl rfl ⟨Nat.le_of_ble_eq_true rfl, Nat.le_of_ble_eq_true rfl⟩ rfl rfl (Nat.le_of_ble_eq_true rfl) d_PR_send_18 ⟨Nat.zero_le _, Nat.zero_le _⟩ [0, 1, 2, 3, 4, 5] [] [0, 1, 2, 3, 4, 5] (by decide) (Cut_mk rfl rfl (by decide) (by decide) (by decide) rfl) (fun H locs hP hD hS => ?_)
      refine lv_aload_n hx hb d_PR_send_21 rfl (lv_at hl 1 rfl) ?_
      refine gf_PR_26 hC hP 0 rfl rfl d_PR_send_22 ?_
      refine lv_iload_n hx hb d_PR_send_25 rfl (lv_at hl 0 rfl) ?_
      obtain ⟨r6, h7, hf⟩ := o_bind hf
      refine cVi (rest := []) (wr := [(a_p0, .inr (6, [.ref z_text, .ref z_hall, .ref a_now, .ref z_trial, .ref z_hand, .ref a_acts, .ref z_slots, .ref z_seen, .int r4.1, .int v_slotsKept, .long v_seed])), (a_now_off, .inl (cI, 4, .inl v_now_off)), (a_acts, .inr (4, [.int v_acts_places, .ref a_acts_cells])), (a_acts_cells, .inl (cI, 140, .inl r4.2))]) (wn := (cs_PR_send cI cZ a_p0 a_now a_now_off a_now_waited a_acts a_acts_cells z_text z_hall z_trial z_hand z_slots z_seen r4.1 v_slotsKept v_seed v_now_nights v_now_off r6.2 v_acts_places r4.2)) (c_Scene_letGo l D cI cZ a_now a_now_waited a_now_off r1 v_now_nights v_now_waited r6 h7) hC hA hP hD hS hl.1 cw_PR_161 1 rfl rfl rfl ⟨Nat.le_of_ble_eq_true rfl, Nat.le_of_ble_eq_true rfl⟩ rfl rfl (Nat.le_of_ble_eq_true rfl) d_PR_send_26 ⟨Nat.zero_le _, Nat.zero_le _⟩ [1, 3] [0, 2, 4, 5] [0, 4, 1, 5, 2, 3] (by decide) (Cut_mk rfl rfl (by decide) (by decide) (by decide) rfl) (fun H locs hP hD hS => ?_)
      refine lv_pop hx hb d_PR_send_29 rfl ?_
      refine lv_iload_n hx hb d_PR_send_30 rfl (lv_at hl 0 rfl) ?_
      have hr := Option.some.inj hf
      exact RET _ _ _ _ _ _ rfl (congrArg (fun r : Int32 × Int32 × (Nat → Int32) × (Nat → Int32) => r.1) hr) (congrArg (fun r : Int32 × Int32 × (Nat → Int32) × (Nat → Int32) => (cs_PR_send cI cZ a_p0 a_now a_now_off a_now_waited a_acts a_acts_cells z_text z_hall z_trial z_hand z_slots z_seen r.2.1 v_slotsKept v_seed v_now_nights v_now_off r.2.2.1 v_acts_places r.2.2.2)) hr) hP hD hS d_PR_send_31
    · have hf := o_pos c3 hf
      refine lv_bipush (v := (-3)) hx hb d_PR_send_14 (by decide) ?_
      have hr := Option.some.inj hf
      exact RET _ _ _ _ _ _ rfl (congrArg (fun r : Int32 × Int32 × (Nat → Int32) × (Nat → Int32) => r.1) hr) (congrArg (fun r : Int32 × Int32 × (Nat → Int32) × (Nat → Int32) => (cs_PR_send cI cZ a_p0 a_now a_now_off a_now_waited a_acts a_acts_cells z_text z_hall z_trial z_hand z_slots z_seen r.2.1 v_slotsKept v_seed v_now_nights v_now_off r.2.2.1 v_acts_places r.2.2.2)) hr) hP hD hS d_PR_send_16
  exact E _ _ hP hS
set_option maxHeartbeats 4000000 in
set_option maxRecDepth 100000 in
theorem c_PR_undo (l : Launch) (D : va_G) (cI cZ : ClassId) (a_p0 a_now a_now_off a_now_waited a_acts a_acts_cells z_text z_hall z_trial z_hand z_slots z_seen : Nat) (v_actCount : Int32) (v_slotsKept : Int32) (v_seed : Int64) (v_now_nights : Int32) (v_now_off : Nat → Int32) (v_now_waited : Nat → Int32) (v_acts_places : Int32) (v_acts_cells : Nat → Int32) (res : Int32 × Int32 × Int32 × (Nat → Int32) × (Nat → Int32)) (hf : f_PR_undo v_acts_places v_acts_cells v_actCount v_now_nights v_now_off v_now_waited = some res) : CtI l y_PR_undo b_PR_undo 1 (some .int) 2 D cI cZ [.ref a_p0] (cs_PR_undo cI cZ a_p0 a_now a_now_off a_now_waited a_acts a_acts_cells z_text z_hall z_trial z_hand z_slots z_seen v_actCount v_slotsKept v_seed v_now_nights v_now_off v_now_waited v_acts_places v_acts_cells) res.1 (cs_PR_undo cI cZ a_p0 a_now a_now_off a_now_waited a_acts a_acts_cells z_text z_hall z_trial z_hand z_slots z_seen res.2.1 v_slotsKept v_seed res.2.2.1 res.2.2.2.1 res.2.2.2.2 v_acts_places v_acts_cells) := by
  refine CtI_mk (by decide) (Nat.le_of_ble_eq_true rfl) ?_
  intro p e s m args below meth c A Q hC hA hP hD RET ls hl
  have hC : Cx p s m args meth c b_PR_undo 1 R_PR D cI cZ := hC
  have hl : lv_has ls 1 [(0, .ref a_p0)] := hl
  obtain ⟨hx, hb, hml, hown, hts, hlk, hKK⟩ := id hC
  have hS : va_S A s.heap s.heap [] := va_S.rf
  unfold f_PR_undo at hf
  have E : ∀ (H : Heap) (locs : List Loc), va_P D classes (cs_PR_undo cI cZ a_p0 a_now a_now_off a_now_waited a_acts a_acts_cells z_text z_hall z_trial z_hand z_slots z_seen v_actCount v_slotsKept v_seed v_now_nights v_now_off v_now_waited v_acts_places v_acts_cells) H → va_S A s.heap H locs → W p l e (rm_ 2 (40 * 2)) s m args below meth c H locs 0 0 Q (F0 m 0 ls []) := by
    intro H locs hP hS
    refine lv_aload_n hx hb d_PR_undo_0 rfl (lv_at hl 0 rfl) ?_
    refine gf_PR_59 hC hP 0 rfl rfl d_PR_undo_1 ?_
    refine lv_if_ne (tgt := 10) hx hb d_PR_undo_4 (by decide) (fun c1 => ?_) (fun c1 => ?_)
    · have hf := o_neg c1 hf
      refine lv_aload_n hx hb d_PR_undo_10 rfl (lv_at hl 0 rfl) ?_
      refine lv_dup hx hb d_PR_undo_11 rfl ?_
      refine gf_PR_59 hC hP 0 rfl rfl d_PR_undo_12 ?_
      refine lv_iconst (v := 1) hx hb d_PR_undo_15 (by decide) ?_
      refine lv_isub hx hb d_PR_undo_16 ?_
      refine pf_PR_59 hC hP hD hS 0 rfl (Nat.le_of_ble_eq_true rfl) d_PR_undo_17 (fun H locs hP hD hS => ?_)
      have hP : va_P D classes (cs_PR_undo cI cZ a_p0 a_now a_now_off a_now_waited a_acts a_acts_cells z_text z_hall z_trial z_hand z_slots z_seen (v_actCount - 1) v_slotsKept v_seed v_now_nights v_now_off v_now_waited v_acts_places v_acts_cells) H := hP
      have hD : va_D A (cs_PR_undo cI cZ a_p0 a_now a_now_off a_now_waited a_acts a_acts_cells z_text z_hall z_trial z_hand z_slots z_seen (v_actCount - 1) v_slotsKept v_seed v_now_nights v_now_off v_now_waited v_acts_places v_acts_cells) := hD
      refine lv_aload_n hx hb d_PR_undo_20 rfl (lv_at hl 0 rfl) ?_
      refine gf_PR_45 hC hP 0 rfl rfl d_PR_undo_21 ?_
      refine lv_aload_n hx hb d_PR_undo_24 rfl (lv_at hl 0 rfl) ?_
      refine gf_PR_59 hC hP 0 rfl rfl d_PR_undo_25 ?_
      refine lv_aload_n hx hb d_PR_undo_28 rfl (lv_at hl 0 rfl) ?_
      refine gf_PR_26 hC hP 0 rfl rfl d_PR_undo_29 ?_
      obtain ⟨r2, h3, hf⟩ := o_bind hf
      refine cVv (rest := []) (wr := [(a_p0, .inr (6, [.ref z_text, .ref z_hall, .ref a_now, .ref z_trial, .ref z_hand, .ref a_acts, .ref z_slots, .ref z_seen, .int (v_actCount - 1), .int v_slotsKept, .long v_seed]))]) (wn := (cs_PR_undo cI cZ a_p0 a_now a_now_off a_now_waited a_acts a_acts_cells z_text z_hall z_trial z_hand z_slots z_seen (v_actCount - 1) v_slotsKept v_seed r2.1 r2.2.1 r2.2.2 v_acts_places v_acts_cells)) (c_Shelf_take l D cI cZ a_acts a_acts_cells a_now a_now_off a_now_waited 140 (v_actCount - 1) v_acts_places v_acts_cells v_now_nights v_now_off v_now_waited r2 h3) hC hA hP hD hS hl.1 cw_PR_164 4 rfl rfl rfl ⟨Nat.le_of_ble_eq_true rfl, Nat.le_of_ble_eq_true rfl⟩ rfl rfl (Nat.le_of_ble_eq_true rfl) d_PR_undo_32 ⟨Nat.zero_le _, Nat.zero_le _⟩ [4, 5, 1, 2, 3] [0] [0, 3, 4, 5, 1, 2] (by decide) (Cut_mk rfl rfl (by decide) (by decide) (by decide) rfl) (fun H locs hP hD hS => ?_)
      refine lv_aload_n hx hb d_PR_undo_35 rfl (lv_at hl 0 rfl) ?_
      refine gf_PR_59 hC hP 0 rfl rfl d_PR_undo_36 ?_
      have hr := Option.some.inj hf
      exact RET _ _ _ _ _ _ rfl (congrArg (fun r : Int32 × Int32 × Int32 × (Nat → Int32) × (Nat → Int32) => r.1) hr) (congrArg (fun r : Int32 × Int32 × Int32 × (Nat → Int32) × (Nat → Int32) => (cs_PR_undo cI cZ a_p0 a_now a_now_off a_now_waited a_acts a_acts_cells z_text z_hall z_trial z_hand z_slots z_seen r.2.1 v_slotsKept v_seed r.2.2.1 r.2.2.2.1 r.2.2.2.2 v_acts_places v_acts_cells)) hr) hP hD hS d_PR_undo_39
    · have hf := o_pos c1 hf
      refine lv_bipush (v := (-3)) hx hb d_PR_undo_7 (by decide) ?_
      have hr := Option.some.inj hf
      exact RET _ _ _ _ _ _ rfl (congrArg (fun r : Int32 × Int32 × Int32 × (Nat → Int32) × (Nat → Int32) => r.1) hr) (congrArg (fun r : Int32 × Int32 × Int32 × (Nat → Int32) × (Nat → Int32) => (cs_PR_undo cI cZ a_p0 a_now a_now_off a_now_waited a_acts a_acts_cells z_text z_hall z_trial z_hand z_slots z_seen r.2.1 v_slotsKept v_seed r.2.2.1 r.2.2.2.1 r.2.2.2.2 v_acts_places v_acts_cells)) hr) hP hD hS d_PR_undo_9
  exact E _ _ hP hS
set_option maxHeartbeats 4000000 in
set_option maxRecDepth 100000 in
theorem c_PR_hailedBy (l : Launch) (D : va_G) (cI cZ : ClassId) (a_p0 a_hall a_hall_layers a_hall_kinds a_hall_wanted a_now a_now_off a_hand a_hand_shown z_text z_trial z_acts z_slots z_seen z_hall_patiences z_now_waited : Nat) (i1 : Int32) (v_actCount : Int32) (v_slotsKept : Int32) (v_seed : Int64) (v_hall_count : Int32) (v_hall_layers : Nat → Int32) (v_hall_kinds : Nat → Int32) (v_hall_wanted : Nat → Int32) (v_now_nights : Int32) (v_now_off : Nat → Int32) (v_hand_shown : Nat → Int32) (res : Int32 × (Nat → Int32)) (hf : f_PR_hailedBy i1 v_hall_count v_hall_layers v_hall_kinds v_hall_wanted v_now_off v_hand_shown = some res) : CtI l y_PR_hailedBy b_PR_hailedBy 5 (some .int) 3 D cI cZ [.ref a_p0, .int i1] (cs_PR_hailedBy cI cZ a_p0 a_hall a_hall_layers a_hall_kinds a_hall_wanted a_now a_now_off a_hand a_hand_shown z_text z_trial z_acts z_slots z_seen z_hall_patiences z_now_waited v_actCount v_slotsKept v_seed v_hall_count v_hall_layers v_hall_kinds v_hall_wanted v_now_nights v_now_off v_hand_shown) res.1 (cs_PR_hailedBy cI cZ a_p0 a_hall a_hall_layers a_hall_kinds a_hall_wanted a_now a_now_off a_hand a_hand_shown z_text z_trial z_acts z_slots z_seen z_hall_patiences z_now_waited v_actCount v_slotsKept v_seed v_hall_count v_hall_layers v_hall_kinds v_hall_wanted v_now_nights v_now_off res.2) := by
  refine CtI_mk (by decide) (Nat.le_of_ble_eq_true rfl) ?_
  intro p e s m args below meth c A Q hC hA hP hD RET ls hl
  have hC : Cx p s m args meth c b_PR_hailedBy 5 R_PR D cI cZ := hC
  have hl : lv_has ls 5 [(0, .ref a_p0), (1, .int i1)] := hl
  obtain ⟨hx, hb, hml, hown, hts, hlk, hKK⟩ := id hC
  have hS : va_S A s.heap s.heap [] := va_S.rf
  have B_11 : ∀  (v_hand_shown : Nat → Int32) (H : Heap) (locs : List Loc) (ls : Array Slot), va_P D classes (cs_PR_hailedBy cI cZ a_p0 a_hall a_hall_layers a_hall_kinds a_hall_wanted a_now a_now_off a_hand a_hand_shown z_text z_trial z_acts z_slots z_seen z_hall_patiences z_now_waited v_actCount v_slotsKept v_seed v_hall_count v_hall_layers v_hall_kinds v_hall_wanted v_now_nights v_now_off v_hand_shown) H → va_D A (cs_PR_hailedBy cI cZ a_p0 a_hall a_hall_layers a_hall_kinds a_hall_wanted a_now a_now_off a_hand a_hand_shown z_text z_trial z_acts z_slots z_seen z_hall_patiences z_now_waited v_actCount v_slotsKept v_seed v_hall_count v_hall_layers v_hall_kinds v_hall_wanted v_now_nights v_now_off v_hand_shown) → va_S A s.heap H locs → lv_has ls 5 [] → f_PR_hailedBy_11  v_hall_count v_hall_layers v_hall_kinds v_hall_wanted v_now_off v_hand_shown = some res → W p l e (rm_ 3 (40 * 3)) s m args below meth c H locs 0 0 Q (F0 m 11 ls []) := by
    intro  v_hand_shown H locs ls hP hD hS hl hf
    unfold f_PR_hailedBy_11 at hf
    refine lv_bipush (v := (-2)) hx hb d_PR_hailedBy_11 (by decide) ?_
    have hr := Option.some.inj hf
    exact RET _ _ _ _ _ _ rfl (congrArg (fun r : Int32 × (Nat → Int32) => r.1) hr) (congrArg (fun r : Int32 × (Nat → Int32) => (cs_PR_hailedBy cI cZ a_p0 a_hall a_hall_layers a_hall_kinds a_hall_wanted a_now a_now_off a_hand a_hand_shown z_text z_trial z_acts z_slots z_seen z_hall_patiences z_now_waited v_actCount v_slotsKept v_seed v_hall_count v_hall_layers v_hall_kinds v_hall_wanted v_now_nights v_now_off r.2)) hr) hP hD hS d_PR_hailedBy_13
  have B_18 : ∀  (n : Nat) (x2 : Int32) (x3 : Int32) (v_hand_shown : Nat → Int32) (H : Heap) (locs : List Loc) (ls : Array Slot), va_P D classes (cs_PR_hailedBy cI cZ a_p0 a_hall a_hall_layers a_hall_kinds a_hall_wanted a_now a_now_off a_hand a_hand_shown z_text z_trial z_acts z_slots z_seen z_hall_patiences z_now_waited v_actCount v_slotsKept v_seed v_hall_count v_hall_layers v_hall_kinds v_hall_wanted v_now_nights v_now_off v_hand_shown) H → va_D A (cs_PR_hailedBy cI cZ a_p0 a_hall a_hall_layers a_hall_kinds a_hall_wanted a_now a_now_off a_hand a_hand_shown z_text z_trial z_acts z_slots z_seen z_hall_patiences z_now_waited v_actCount v_slotsKept v_seed v_hall_count v_hall_layers v_hall_kinds v_hall_wanted v_now_nights v_now_off v_hand_shown) → va_S A s.heap H locs → lv_has ls 5 [(0, .ref a_p0), (2, .int x2), (3, .int x3)] → f_PR_hailedBy_18  v_hall_count v_hall_layers v_hall_kinds v_hall_wanted v_now_off n x2 x3 v_hand_shown = some res → W p l e (rm_ 3 (40 * 3)) s m args below meth c H locs 0 0 Q (F0 m 18 ls []) := by
    intro  n
    induction n with
    | zero => intro x2 x3 v_hand_shown H locs ls hP hD hS hl hf; exact nomatch hf
    | succ n ih =>
      intro x2 x3 v_hand_shown H locs ls hP hD hS hl hf
      have hf : f_PR_hailedBy_18_b  (f_PR_hailedBy_18  v_hall_count v_hall_layers v_hall_kinds v_hall_wanted v_now_off n) v_hall_count v_hall_layers v_hall_kinds v_hall_wanted v_now_off x2 x3 v_hand_shown = some res := hf
      generalize f_PR_hailedBy_18  v_hall_count v_hall_layers v_hall_kinds v_hall_wanted v_now_off n = back_18 at ih hf
      have K_18 := ih
      unfold f_PR_hailedBy_18_b at hf
      refine lv_iload_n hx hb d_PR_hailedBy_18 rfl (lv_at hl 2 rfl) ?_
      refine lv_if_lt (tgt := 75) hx hb d_PR_hailedBy_19 (by decide) (fun c1 => ?_) (fun c1 => ?_)
      · have hf := o_pos c1 hf
        refine lv_aload_n hx hb d_PR_hailedBy_75 rfl (lv_at hl 0 rfl) ?_
        refine gf_PR_36 hC hP 0 rfl rfl d_PR_hailedBy_76 ?_
        refine lv_aload_n hx hb d_PR_hailedBy_79 rfl (lv_at hl 0 rfl) ?_
        refine gf_PR_19 hC hP 0 rfl rfl d_PR_hailedBy_80 ?_
        obtain ⟨r2, h3, hf⟩ := o_bind hf
        refine cVi (rest := []) (wr := [(a_p0, .inr (6, [.ref z_text, .ref a_hall, .ref a_now, .ref z_trial, .ref a_hand, .ref z_acts, .ref z_slots, .ref z_seen, .int v_actCount, .int v_slotsKept, .long v_seed])), (a_hall_layers, .inl (cI, 12, .inl v_hall_layers)), (a_now, .inr (2, [.ref a_now_off, .ref z_now_waited, .int v_now_nights])), (a_now_off, .inl (cI, 4, .inl v_now_off))]) (wn := (cs_PR_hailedBy cI cZ a_p0 a_hall a_hall_layers a_hall_kinds a_hall_wanted a_now a_now_off a_hand a_hand_shown z_text z_trial z_acts z_slots z_seen z_hall_patiences z_now_waited v_actCount v_slotsKept v_seed v_hall_count v_hall_layers v_hall_kinds v_hall_wanted v_now_nights v_now_off v_hand_shown)) (c_Hand_hailed l D cI cZ a_hand a_hand_shown a_hall a_hall_kinds a_hall_wanted a_hall_layers z_hall_patiences v_hand_shown v_hall_count v_hall_kinds v_hall_wanted r2 h3) hC hA hP hD hS hl.1 cw_PR_240 7 rfl rfl rfl ⟨Nat.le_of_ble_eq_true rfl, Nat.le_of_ble_eq_true rfl⟩ rfl rfl (Nat.le_of_ble_eq_true rfl) d_PR_hailedBy_83 ⟨Nat.zero_le _, Nat.zero_le _⟩ [7, 8, 1, 3, 4] [0, 2, 5, 6] [0, 6, 1, 7, 8, 2, 3, 4, 5] (by decide) (Cut_mk rfl rfl (by decide) (by decide) (by decide) rfl) (fun H locs hP hD hS => ?_)
        have hr := Option.some.inj hf
        exact RET _ _ _ _ _ _ rfl (congrArg (fun r : Int32 × (Nat → Int32) => r.1) hr) (congrArg (fun r : Int32 × (Nat → Int32) => (cs_PR_hailedBy cI cZ a_p0 a_hall a_hall_layers a_hall_kinds a_hall_wanted a_now a_now_off a_hand a_hand_shown z_text z_trial z_acts z_slots z_seen z_hall_patiences z_now_waited v_actCount v_slotsKept v_seed v_hall_count v_hall_layers v_hall_kinds v_hall_wanted v_now_nights v_now_off r.2)) hr) hP hD hS d_PR_hailedBy_86
      · have hf := o_neg c1 hf
        refine lv_aload_n hx hb d_PR_hailedBy_22 rfl (lv_at hl 0 rfl) ?_
        refine gf_PR_26 hC hP 0 rfl rfl d_PR_hailedBy_23 ?_
        refine lv_iload_n hx hb d_PR_hailedBy_26 rfl (lv_at hl 2 rfl) ?_
        obtain ⟨r4, h5, hf⟩ := o_bind hf
        refine cVi (rest := []) (wr := [(a_p0, .inr (6, [.ref z_text, .ref a_hall, .ref a_now, .ref z_trial, .ref a_hand, .ref z_acts, .ref z_slots, .ref z_seen, .int v_actCount, .int v_slotsKept, .long v_seed])), (a_hall, .inr (0, [.ref a_hall_layers, .ref a_hall_kinds, .ref z_hall_patiences, .ref a_hall_wanted, .int v_hall_count])), (a_hall_layers, .inl (cI, 12, .inl v_hall_layers)), (a_hall_kinds, .inl (cI, 5, .inl v_hall_kinds)), (a_hall_wanted, .inl (cI, 20, .inl v_hall_wanted)), (a_hand, .inr (1, [.ref a_hand_shown])), (a_hand_shown, .inl (cI, 4, .inl v_hand_shown))]) (wn := (cs_PR_hailedBy cI cZ a_p0 a_hall a_hall_layers a_hall_kinds a_hall_wanted a_now a_now_off a_hand a_hand_shown z_text z_trial z_acts z_slots z_seen z_hall_patiences z_now_waited v_actCount v_slotsKept v_seed v_hall_count v_hall_layers v_hall_kinds v_hall_wanted v_now_nights v_now_off v_hand_shown)) (c_Scene_off l D cI cZ a_now a_now_off z_now_waited x3 v_now_nights v_now_off r4 h5) hC hA hP hD hS hl.1 cw_PR_112 5 rfl rfl rfl ⟨Nat.le_of_ble_eq_true rfl, Nat.le_of_ble_eq_true rfl⟩ rfl rfl (Nat.le_of_ble_eq_true rfl) d_PR_hailedBy_27 ⟨Nat.zero_le _, Nat.zero_le _⟩ [5, 6] [0, 1, 2, 3, 4, 7, 8] [0, 1, 2, 3, 4, 7, 8, 5, 6] (by decide) (Cut_mk rfl rfl (by decide) (by decide) (by decide) rfl) (fun H locs hP hD hS => ?_)
        refine lv_iload_n hx hb d_PR_hailedBy_30 rfl (lv_at hl 1 rfl) ?_
        refine lv_bipush (v := 10) hx hb d_PR_hailedBy_31 (by decide) ?_
        refine lv_irem hx hb d_PR_hailedBy_33 (by decide) ?_
        refine lv_iadd hx hb d_PR_hailedBy_34 ?_
        refine lv_istore (lv' := [(4, .int (r4 + (rmI x2 10))), (0, .ref a_p0), (2, .int x2), (3, .int x3)]) hx hb d_PR_hailedBy_35 hl (by decide) rfl (fun ls hl => ?_)
        refine lv_iload hx hb d_PR_hailedBy_37 (lv_at hl 0 rfl) ?_
        refine lv_iconst (v := 2) hx hb d_PR_hailedBy_39 (by decide) ?_
        refine lv_icmp_le (tgt := 46) hx hb d_PR_hailedBy_40 (by decide) (fun c6 => ?_) (fun c6 => ?_)
        · have hf := o_pos c6 hf
          refine lv_aload_n hx hb d_PR_hailedBy_46 rfl (lv_at hl 1 rfl) ?_
          refine gf_PR_36 hC hP 0 rfl rfl d_PR_hailedBy_47 ?_
          refine lv_iload_n hx hb d_PR_hailedBy_50 rfl (lv_at hl 3 rfl) ?_
          refine lv_aload_n hx hb d_PR_hailedBy_51 rfl (lv_at hl 1 rfl) ?_
          refine gf_PR_19 hC hP 0 rfl rfl d_PR_hailedBy_52 ?_
          refine lv_iload_n hx hb d_PR_hailedBy_55 rfl (lv_at hl 3 rfl) ?_
          refine lv_iload hx hb d_PR_hailedBy_56 (lv_at hl 0 rfl) ?_
          obtain ⟨r7, h8, hf⟩ := o_bind hf
          refine cVi (rest := [.int x3, .ref a_hand]) (wr := [(a_p0, .inr (6, [.ref z_text, .ref a_hall, .ref a_now, .ref z_trial, .ref a_hand, .ref z_acts, .ref z_slots, .ref z_seen, .int v_actCount, .int v_slotsKept, .long v_seed])), (a_hall_kinds, .inl (cI, 5, .inl v_hall_kinds)), (a_hall_wanted, .inl (cI, 20, .inl v_hall_wanted)), (a_now, .inr (2, [.ref a_now_off, .ref z_now_waited, .int v_now_nights])), (a_now_off, .inl (cI, 4, .inl v_now_off)), (a_hand, .inr (1, [.ref a_hand_shown])), (a_hand_shown, .inl (cI, 4, .inl v_hand_shown))]) (wn := (cs_PR_hailedBy cI cZ a_p0 a_hall a_hall_layers a_hall_kinds a_hall_wanted a_now a_now_off a_hand a_hand_shown z_text z_trial z_acts z_slots z_seen z_hall_patiences z_now_waited v_actCount v_slotsKept v_seed v_hall_count v_hall_layers v_hall_kinds v_hall_wanted v_now_nights v_now_off v_hand_shown)) (c_Hall_layer l D cI cZ a_hall a_hall_layers a_hall_kinds z_hall_patiences a_hall_wanted x3 (r4 + (rmI x2 10)) v_hall_count v_hall_layers r7 h8) hC hA hP hD hS hl.1 cw_PR_108 1 rfl rfl rfl ⟨Nat.le_of_ble_eq_true rfl, Nat.le_of_ble_eq_true rfl⟩ rfl rfl (Nat.le_of_ble_eq_true rfl) d_PR_hailedBy_58 ⟨Nat.zero_le _, Nat.zero_le _⟩ [1, 2] [0, 3, 4, 5, 6, 7, 8] [0, 7, 8, 1, 2, 3, 4, 5, 6] (by decide) (Cut_mk rfl rfl (by decide) (by decide) (by decide) rfl) (fun H locs hP hD hS => ?_)
          obtain ⟨r9, h10, hf⟩ := o_bind hf
          refine cVv (rest := []) (wr := [(a_p0, .inr (6, [.ref z_text, .ref a_hall, .ref a_now, .ref z_trial, .ref a_hand, .ref z_acts, .ref z_slots, .ref z_seen, .int v_actCount, .int v_slotsKept, .long v_seed])), (a_hall, .inr (0, [.ref a_hall_layers, .ref a_hall_kinds, .ref z_hall_patiences, .ref a_hall_wanted, .int v_hall_count])), (a_hall_layers, .inl (cI, 12, .inl v_hall_layers)), (a_hall_kinds, .inl (cI, 5, .inl v_hall_kinds)), (a_hall_wanted, .inl (cI, 20, .inl v_hall_wanted)), (a_now, .inr (2, [.ref a_now_off, .ref z_now_waited, .int v_now_nights])), (a_now_off, .inl (cI, 4, .inl v_now_off))]) (wn := (cs_PR_hailedBy cI cZ a_p0 a_hall a_hall_layers a_hall_kinds a_hall_wanted a_now a_now_off a_hand a_hand_shown z_text z_trial z_acts z_slots z_seen z_hall_patiences z_now_waited v_actCount v_slotsKept v_seed v_hall_count v_hall_layers v_hall_kinds v_hall_wanted v_now_nights v_now_off r9)) (c_Hand_show l D cI cZ a_hand a_hand_shown x3 r7 v_hand_shown r9 h10) hC hA hP hD hS hl.1 cw_PR_247 7 rfl rfl rfl ⟨Nat.le_of_ble_eq_true rfl, Nat.le_of_ble_eq_true rfl⟩ rfl rfl (Nat.le_of_ble_eq_true rfl) d_PR_hailedBy_61 ⟨Nat.zero_le _, Nat.zero_le _⟩ [7, 8] [0, 1, 2, 3, 4, 5, 6] [0, 1, 2, 3, 4, 5, 6, 7, 8] (by decide) (Cut_mk rfl rfl (by decide) (by decide) (by decide) rfl) (fun H locs hP hD hS => ?_)
          refine lv_iload_n hx hb d_PR_hailedBy_64 rfl (lv_at hl 2 rfl) ?_
          refine lv_bipush (v := 10) hx hb d_PR_hailedBy_65 (by decide) ?_
          refine lv_idiv hx hb d_PR_hailedBy_67 (by decide) ?_
          refine lv_istore_n (lv' := [(2, .int (x2 / 10)), (4, .int (r4 + (rmI x2 10))), (0, .ref a_p0), (3, .int x3)]) hx hb d_PR_hailedBy_68 rfl hl (by decide) rfl (fun ls hl => ?_)
          refine lv_iinc (v := x3 + (-1)) (lv' := [(3, .int (x3 + (-1))), (2, .int (x2 / 10)), (4, .int (r4 + (rmI x2 10))), (0, .ref a_p0)]) hx hb d_PR_hailedBy_69 hl (k := 3) rfl (congrArg (x3 + ·) (by decide : Int32.ofInt (-1) = -1)) (by decide) rfl (fun ls hl => ?_)
          refine lv_goto (tgt := 18) hx hb d_PR_hailedBy_72 (by decide) ?_
          exact K_18 (x2 / 10) (x3 + (-1)) r9 _ _ _ hP hD hS (lv_sub hl [3, 1, 0] rfl) hf
        · have hf := o_neg c6 hf
          refine lv_bipush (v := (-2)) hx hb d_PR_hailedBy_43 (by decide) ?_
          have hr := Option.some.inj hf
          exact RET _ _ _ _ _ _ rfl (congrArg (fun r : Int32 × (Nat → Int32) => r.1) hr) (congrArg (fun r : Int32 × (Nat → Int32) => (cs_PR_hailedBy cI cZ a_p0 a_hall a_hall_layers a_hall_kinds a_hall_wanted a_now a_now_off a_hand a_hand_shown z_text z_trial z_acts z_slots z_seen z_hall_patiences z_now_waited v_actCount v_slotsKept v_seed v_hall_count v_hall_layers v_hall_kinds v_hall_wanted v_now_nights v_now_off r.2)) hr) hP hD hS d_PR_hailedBy_45
  unfold f_PR_hailedBy at hf
  have E : ∀ (H : Heap) (locs : List Loc), va_P D classes (cs_PR_hailedBy cI cZ a_p0 a_hall a_hall_layers a_hall_kinds a_hall_wanted a_now a_now_off a_hand a_hand_shown z_text z_trial z_acts z_slots z_seen z_hall_patiences z_now_waited v_actCount v_slotsKept v_seed v_hall_count v_hall_layers v_hall_kinds v_hall_wanted v_now_nights v_now_off v_hand_shown) H → va_S A s.heap H locs → W p l e (rm_ 3 (40 * 3)) s m args below meth c H locs 0 0 Q (F0 m 0 ls []) := by
    intro H locs hP hS
    refine lv_iload_n hx hb d_PR_hailedBy_0 rfl (lv_at hl 1 rfl) ?_
    refine lv_if_lt (tgt := 11) hx hb d_PR_hailedBy_1 (by decide) (fun c1 => ?_) (fun c1 => ?_)
    · have hf := o_pos c1 hf
      exact B_11 v_hand_shown _ _ _ hP hD hS (lv_sub hl [] rfl) hf
    · have hf := o_neg c1 hf
      refine lv_iload_n hx hb d_PR_hailedBy_4 rfl (lv_at hl 1 rfl) ?_
      refine lv_sipush (v := 2222) hx hb d_PR_hailedBy_5 (by decide) ?_
      refine lv_icmp_le (tgt := 14) hx hb d_PR_hailedBy_8 (by decide) (fun c2 => ?_) (fun c2 => ?_)
      · have hf := o_pos c2 hf
        refine lv_iload_n hx hb d_PR_hailedBy_14 rfl (lv_at hl 1 rfl) ?_
        refine lv_istore_n (lv' := [(2, .int i1), (0, .ref a_p0), (1, .int i1)]) hx hb d_PR_hailedBy_15 rfl hl (by decide) rfl (fun ls hl => ?_)
        refine lv_iconst (v := 3) hx hb d_PR_hailedBy_16 (by decide) ?_
        refine lv_istore_n (lv' := [(3, .int 3), (2, .int i1), (0, .ref a_p0), (1, .int i1)]) hx hb d_PR_hailedBy_17 rfl hl (by decide) rfl (fun ls hl => ?_)
        exact B_18 300 i1 3 v_hand_shown _ _ _ hP hD hS (lv_sub hl [2, 1, 0] rfl) hf
      · have hf := o_neg c2 hf
        exact B_11 v_hand_shown _ _ _ hP hD hS (lv_sub hl [] rfl) hf
  exact E _ _ hP hS
set_option maxHeartbeats 4000000 in
set_option maxRecDepth 100000 in
theorem c_PR_call (l : Launch) (D : va_G) (cI cZ : ClassId) (a_p0 a_hall a_hall_layers a_hall_kinds a_hall_wanted a_now a_now_off a_hand a_hand_shown z_text z_trial z_acts z_slots z_seen z_hall_patiences z_now_waited : Nat) (i1 : Int32) (v_actCount : Int32) (v_slotsKept : Int32) (v_seed : Int64) (v_hall_count : Int32) (v_hall_layers : Nat → Int32) (v_hall_kinds : Nat → Int32) (v_hall_wanted : Nat → Int32) (v_now_nights : Int32) (v_now_off : Nat → Int32) (v_hand_shown : Nat → Int32) (res : Int32 × (Nat → Int32)) (hf : f_PR_call i1 v_hall_count v_hall_layers v_hall_kinds v_hall_wanted v_now_off v_hand_shown = some res) : CtI l y_PR_call b_PR_call 2 (some .int) 4 D cI cZ [.ref a_p0, .int i1] (cs_PR_call cI cZ a_p0 a_hall a_hall_layers a_hall_kinds a_hall_wanted a_now a_now_off a_hand a_hand_shown z_text z_trial z_acts z_slots z_seen z_hall_patiences z_now_waited v_actCount v_slotsKept v_seed v_hall_count v_hall_layers v_hall_kinds v_hall_wanted v_now_nights v_now_off v_hand_shown) res.1 (cs_PR_call cI cZ a_p0 a_hall a_hall_layers a_hall_kinds a_hall_wanted a_now a_now_off a_hand a_hand_shown z_text z_trial z_acts z_slots z_seen z_hall_patiences z_now_waited v_actCount v_slotsKept v_seed v_hall_count v_hall_layers v_hall_kinds v_hall_wanted v_now_nights v_now_off res.2) := by
  refine CtI_mk (by decide) (Nat.le_of_ble_eq_true rfl) ?_
  intro p e s m args below meth c A Q hC hA hP hD RET ls hl
  have hC : Cx p s m args meth c b_PR_call 2 R_PR D cI cZ := hC
  have hl : lv_has ls 2 [(0, .ref a_p0), (1, .int i1)] := hl
  obtain ⟨hx, hb, hml, hown, hts, hlk, hKK⟩ := id hC
  have hS : va_S A s.heap s.heap [] := va_S.rf
  unfold f_PR_call at hf
  have E : ∀ (H : Heap) (locs : List Loc), va_P D classes (cs_PR_call cI cZ a_p0 a_hall a_hall_layers a_hall_kinds a_hall_wanted a_now a_now_off a_hand a_hand_shown z_text z_trial z_acts z_slots z_seen z_hall_patiences z_now_waited v_actCount v_slotsKept v_seed v_hall_count v_hall_layers v_hall_kinds v_hall_wanted v_now_nights v_now_off v_hand_shown) H → va_S A s.heap H locs → W p l e (rm_ 4 (40 * 4)) s m args below meth c H locs 0 0 Q (F0 m 0 ls []) := by
    intro H locs hP hS
    refine lv_aload_n hx hb d_PR_call_0 rfl (lv_at hl 0 rfl) ?_
    refine lv_iload_n hx hb d_PR_call_1 rfl (lv_at hl 1 rfl) ?_
    obtain ⟨r1, h2, hf⟩ := o_bind hf
    refine cVi (rest := []) (wr := []) (wn := (cs_PR_call cI cZ a_p0 a_hall a_hall_layers a_hall_kinds a_hall_wanted a_now a_now_off a_hand a_hand_shown z_text z_trial z_acts z_slots z_seen z_hall_patiences z_now_waited v_actCount v_slotsKept v_seed v_hall_count v_hall_layers v_hall_kinds v_hall_wanted v_now_nights v_now_off r1.2)) (c_PR_hailedBy l D cI cZ a_p0 a_hall a_hall_layers a_hall_kinds a_hall_wanted a_now a_now_off a_hand a_hand_shown z_text z_trial z_acts z_slots z_seen z_hall_patiences z_now_waited i1 v_actCount v_slotsKept v_seed v_hall_count v_hall_layers v_hall_kinds v_hall_wanted v_now_nights v_now_off v_hand_shown r1 h2) hC hA hP hD hS hl.1 cw_PR_168 0 rfl rfl rfl ⟨Nat.le_of_ble_eq_true rfl, Nat.le_of_ble_eq_true rfl⟩ rfl rfl (Nat.le_of_ble_eq_true rfl) d_PR_call_2 ⟨Nat.zero_le _, Nat.zero_le _⟩ [0, 1, 2, 3, 4, 5, 6, 7, 8] [] [0, 1, 2, 3, 4, 5, 6, 7, 8] (by decide) (Cut_mk rfl rfl (by decide) (by decide) (by decide) rfl) (fun H locs hP hD hS => ?_)
    have hr := Option.some.inj hf
    exact RET _ _ _ _ _ _ rfl (congrArg (fun r : Int32 × (Nat → Int32) => r.1) hr) (congrArg (fun r : Int32 × (Nat → Int32) => (cs_PR_call cI cZ a_p0 a_hall a_hall_layers a_hall_kinds a_hall_wanted a_now a_now_off a_hand a_hand_shown z_text z_trial z_acts z_slots z_seen z_hall_patiences z_now_waited v_actCount v_slotsKept v_seed v_hall_count v_hall_layers v_hall_kinds v_hall_wanted v_now_nights v_now_off r.2)) hr) hP hD hS d_PR_call_5
  exact E _ _ hP hS
