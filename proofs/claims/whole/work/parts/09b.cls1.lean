set_option maxHeartbeats 4000000 in
set_option maxRecDepth 100000 in
theorem c_PR_isOneOfTwo (l : Launch) (D : va_G) (cI cZ : ClassId) (i0 : Int32) (res : Int32) (hf : f_PR_isOneOfTwo i0 = some res) : CtI l y_PR_isOneOfTwo b_PR_isOneOfTwo 1 (some .boolean) 0 D cI cZ [.int i0] [] res [] := by
  refine CtI_mk (by decide) (Nat.le_of_ble_eq_true rfl) ?_
  intro p e s m args below meth c A Q hC hA hP hD RET ls hl
  have hC : Cx p s m args meth c b_PR_isOneOfTwo 1 R_PR D cI cZ := hC
  have hl : lv_has ls 1 [(0, .int i0)] := hl
  obtain ⟨hx, hb, hml, hown, hts, hlk, hKK⟩ := id hC
  have hS : va_S A s.heap s.heap [] := va_S.rf
  have B_14 : ∀  (w0 : Int32) (H : Heap) (locs : List Loc) (ls : Array Slot), va_P D classes [] H → va_D A [] → va_S A s.heap H locs → lv_has ls 1 [] → f_PR_isOneOfTwo_14   w0 = some res → W p l e (rm_ 0 (40 * 0)) s m args below meth c H locs 0 0 Q (F0 m 14 ls [.int w0]) := by
    intro  w0 H locs ls hP hD hS hl hf
    unfold f_PR_isOneOfTwo_14 at hf
    obtain ⟨h1, hf⟩ := o_ite hf
    have hr := Option.some.inj hf
    exact RET _ _ _ _ _ _ (narB h1) (congrArg (fun r : Int32 => r) hr) rfl hP hD hS d_PR_isOneOfTwo_14
  have B_9 : ∀   (H : Heap) (locs : List Loc) (ls : Array Slot), va_P D classes [] H → va_D A [] → va_S A s.heap H locs → lv_has ls 1 [] → f_PR_isOneOfTwo_9    = some res → W p l e (rm_ 0 (40 * 0)) s m args below meth c H locs 0 0 Q (F0 m 9 ls []) := by
    intro   H locs ls hP hD hS hl hf
    unfold f_PR_isOneOfTwo_9 at hf
    refine lv_iconst (v := 1) hx hb d_PR_isOneOfTwo_9 (by decide) ?_
    refine lv_goto (tgt := 14) hx hb d_PR_isOneOfTwo_10 (by decide) ?_
    exact B_14 1 _ _ _ hP hD hS (lv_sub hl [] rfl) hf
  unfold f_PR_isOneOfTwo at hf
  have E : ∀ (H : Heap) (locs : List Loc), va_P D classes [] H → va_S A s.heap H locs → W p l e (rm_ 0 (40 * 0)) s m args below meth c H locs 0 0 Q (F0 m 0 ls []) := by
    intro H locs hP hS
    refine lv_iload_n hx hb d_PR_isOneOfTwo_0 rfl (lv_at hl 0 rfl) ?_
    refine lv_if_eq (tgt := 9) hx hb d_PR_isOneOfTwo_1 (by decide) (fun c1 => ?_) (fun c1 => ?_)
    · have hf := o_pos c1 hf
      exact B_9 _ _ _ hP hD hS (lv_sub hl [] rfl) hf
    · have hf := o_neg c1 hf
      refine lv_iload_n hx hb d_PR_isOneOfTwo_4 rfl (lv_at hl 0 rfl) ?_
      refine lv_iconst (v := 1) hx hb d_PR_isOneOfTwo_5 (by decide) ?_
      refine lv_icmp_ne (tgt := 13) hx hb d_PR_isOneOfTwo_6 (by decide) (fun c2 => ?_) (fun c2 => ?_)
      · have hf := o_neg c2 hf
        refine lv_iconst (v := 0) hx hb d_PR_isOneOfTwo_13 (by decide) ?_
        exact B_14 0 _ _ _ hP hD hS (lv_sub hl [] rfl) hf
      · have hf := o_pos c2 hf
        exact B_9 _ _ _ hP hD hS (lv_sub hl [] rfl) hf
  exact E _ _ hP hS
set_option maxHeartbeats 4000000 in
set_option maxRecDepth 100000 in
theorem c_PR_asCleaning (l : Launch) (D : va_G) (cI cZ : ClassId) (i0 : Int32) (res : Int32) (hf : f_PR_asCleaning i0 = some res) : CtI l y_PR_asCleaning b_PR_asCleaning 1 (some .int) 0 D cI cZ [.int i0] [] res [] := by
  refine CtI_mk (by decide) (Nat.le_of_ble_eq_true rfl) ?_
  intro p e s m args below meth c A Q hC hA hP hD RET ls hl
  have hC : Cx p s m args meth c b_PR_asCleaning 1 R_PR D cI cZ := hC
  have hl : lv_has ls 1 [(0, .int i0)] := hl
  obtain ⟨hx, hb, hml, hown, hts, hlk, hKK⟩ := id hC
  have hS : va_S A s.heap s.heap [] := va_S.rf
  unfold f_PR_asCleaning at hf
  have E : ∀ (H : Heap) (locs : List Loc), va_P D classes [] H → va_S A s.heap H locs → W p l e (rm_ 0 (40 * 0)) s m args below meth c H locs 0 0 Q (F0 m 0 ls []) := by
    intro H locs hP hS
    refine lv_iload_n hx hb d_PR_asCleaning_0 rfl (lv_at hl 0 rfl) ?_
    refine lv_bipush (v := 27) hx hb d_PR_asCleaning_1 (by decide) ?_
    refine lv_idiv hx hb d_PR_asCleaning_3 (by decide) ?_
    refine lv_sipush (v := 1000) hx hb d_PR_asCleaning_4 (by decide) ?_
    refine lv_imul hx hb d_PR_asCleaning_7 ?_
    refine lv_iload_n hx hb d_PR_asCleaning_8 rfl (lv_at hl 0 rfl) ?_
    refine lv_bipush (v := 9) hx hb d_PR_asCleaning_9 (by decide) ?_
    refine lv_idiv hx hb d_PR_asCleaning_11 (by decide) ?_
    refine lv_iconst (v := 3) hx hb d_PR_asCleaning_12 (by decide) ?_
    refine lv_irem hx hb d_PR_asCleaning_13 (by decide) ?_
    refine lv_bipush (v := 100) hx hb d_PR_asCleaning_14 (by decide) ?_
    refine lv_imul hx hb d_PR_asCleaning_16 ?_
    refine lv_iadd hx hb d_PR_asCleaning_17 ?_
    refine lv_iload_n hx hb d_PR_asCleaning_18 rfl (lv_at hl 0 rfl) ?_
    refine lv_iconst (v := 3) hx hb d_PR_asCleaning_19 (by decide) ?_
    refine lv_idiv hx hb d_PR_asCleaning_20 (by decide) ?_
    refine lv_iconst (v := 3) hx hb d_PR_asCleaning_21 (by decide) ?_
    refine lv_irem hx hb d_PR_asCleaning_22 (by decide) ?_
    refine lv_bipush (v := 10) hx hb d_PR_asCleaning_23 (by decide) ?_
    refine lv_imul hx hb d_PR_asCleaning_25 ?_
    refine lv_iadd hx hb d_PR_asCleaning_26 ?_
    refine lv_iload_n hx hb d_PR_asCleaning_27 rfl (lv_at hl 0 rfl) ?_
    refine lv_iconst (v := 3) hx hb d_PR_asCleaning_28 (by decide) ?_
    refine lv_irem hx hb d_PR_asCleaning_29 (by decide) ?_
    refine lv_iadd hx hb d_PR_asCleaning_30 ?_
    have hr := Option.some.inj hf
    exact RET _ _ _ _ _ _ rfl (congrArg (fun r : Int32 => r) hr) rfl hP hD hS d_PR_asCleaning_31
  exact E _ _ hP hS
set_option maxHeartbeats 4000000 in
set_option maxRecDepth 100000 in
theorem c_PR_layersOf (l : Launch) (D : va_G) (cI cZ : ClassId) (i0 : Int32) (res : Int32) (hf : f_PR_layersOf i0 = some res) : CtI l y_PR_layersOf b_PR_layersOf 1 (some .int) 0 D cI cZ [.int i0] [] res [] := by
  refine CtI_mk (by decide) (Nat.le_of_ble_eq_true rfl) ?_
  intro p e s m args below meth c A Q hC hA hP hD RET ls hl
  have hC : Cx p s m args meth c b_PR_layersOf 1 R_PR D cI cZ := hC
  have hl : lv_has ls 1 [(0, .int i0)] := hl
  obtain ⟨hx, hb, hml, hown, hts, hlk, hKK⟩ := id hC
  have hS : va_S A s.heap s.heap [] := va_S.rf
  unfold f_PR_layersOf at hf
  have E : ∀ (H : Heap) (locs : List Loc), va_P D classes [] H → va_S A s.heap H locs → W p l e (rm_ 0 (40 * 0)) s m args below meth c H locs 0 0 Q (F0 m 0 ls []) := by
    intro H locs hP hS
    refine lv_iload_n hx hb d_PR_layersOf_0 rfl (lv_at hl 0 rfl) ?_
    refine lv_sipush (v := 1000) hx hb d_PR_layersOf_1 (by decide) ?_
    refine lv_idiv hx hb d_PR_layersOf_4 (by decide) ?_
    refine lv_iload_n hx hb d_PR_layersOf_5 rfl (lv_at hl 0 rfl) ?_
    refine lv_bipush (v := 100) hx hb d_PR_layersOf_6 (by decide) ?_
    refine lv_idiv hx hb d_PR_layersOf_8 (by decide) ?_
    refine lv_bipush (v := 10) hx hb d_PR_layersOf_9 (by decide) ?_
    refine lv_irem hx hb d_PR_layersOf_11 (by decide) ?_
    refine lv_iadd hx hb d_PR_layersOf_12 ?_
    refine lv_iload_n hx hb d_PR_layersOf_13 rfl (lv_at hl 0 rfl) ?_
    refine lv_bipush (v := 10) hx hb d_PR_layersOf_14 (by decide) ?_
    refine lv_idiv hx hb d_PR_layersOf_16 (by decide) ?_
    refine lv_bipush (v := 10) hx hb d_PR_layersOf_17 (by decide) ?_
    refine lv_irem hx hb d_PR_layersOf_19 (by decide) ?_
    refine lv_iadd hx hb d_PR_layersOf_20 ?_
    refine lv_iload_n hx hb d_PR_layersOf_21 rfl (lv_at hl 0 rfl) ?_
    refine lv_bipush (v := 10) hx hb d_PR_layersOf_22 (by decide) ?_
    refine lv_irem hx hb d_PR_layersOf_24 (by decide) ?_
    refine lv_iadd hx hb d_PR_layersOf_25 ?_
    have hr := Option.some.inj hf
    exact RET _ _ _ _ _ _ rfl (congrArg (fun r : Int32 => r) hr) rfl hP hD hS d_PR_layersOf_26
  exact E _ _ hP hS
set_option maxHeartbeats 4000000 in
set_option maxRecDepth 100000 in
theorem c_PR_best (l : Launch) (D : va_G) (cI cZ : ClassId) (a_p0 a_hall a_hall_layers a_hall_kinds a_hall_wanted a_now a_now_off a_hand a_hand_shown z_text z_trial z_acts z_slots z_seen z_hall_patiences z_now_waited : Nat) (i1 : Int32) (v_actCount : Int32) (v_slotsKept : Int32) (v_seed : Int64) (v_hall_count : Int32) (v_hall_layers : Nat → Int32) (v_hall_kinds : Nat → Int32) (v_hall_wanted : Nat → Int32) (v_now_nights : Int32) (v_now_off : Nat → Int32) (v_hand_shown : Nat → Int32) (res : Int32 × (Nat → Int32)) (hf : f_PR_best i1 v_hall_count v_hall_layers v_hall_kinds v_hall_wanted v_now_off v_hand_shown = some res) : CtI l y_PR_best b_PR_best 8 (some .int) 4 D cI cZ [.ref a_p0, .int i1] (cs_PR_best cI cZ a_p0 a_hall a_hall_layers a_hall_kinds a_hall_wanted a_now a_now_off a_hand a_hand_shown z_text z_trial z_acts z_slots z_seen z_hall_patiences z_now_waited v_actCount v_slotsKept v_seed v_hall_count v_hall_layers v_hall_kinds v_hall_wanted v_now_nights v_now_off v_hand_shown) res.1 (cs_PR_best cI cZ a_p0 a_hall a_hall_layers a_hall_kinds a_hall_wanted a_now a_now_off a_hand a_hand_shown z_text z_trial z_acts z_slots z_seen z_hall_patiences z_now_waited v_actCount v_slotsKept v_seed v_hall_count v_hall_layers v_hall_kinds v_hall_wanted v_now_nights v_now_off res.2) := by
  refine CtI_mk (by decide) (Nat.le_of_ble_eq_true rfl) ?_
  intro p e s m args below meth c A Q hC hA hP hD RET ls hl
  have hC : Cx p s m args meth c b_PR_best 8 R_PR D cI cZ := hC
  have hl : lv_has ls 8 [(0, .ref a_p0), (1, .int i1)] := hl
  obtain ⟨hx, hb, hml, hown, hts, hlk, hKK⟩ := id hC
  have hS : va_S A s.heap s.heap [] := va_S.rf
  have B_108 : ∀  (w0 : Int32) (v_hand_shown : Nat → Int32) (H : Heap) (locs : List Loc) (ls : Array Slot), va_P D classes (cs_PR_best cI cZ a_p0 a_hall a_hall_layers a_hall_kinds a_hall_wanted a_now a_now_off a_hand a_hand_shown z_text z_trial z_acts z_slots z_seen z_hall_patiences z_now_waited v_actCount v_slotsKept v_seed v_hall_count v_hall_layers v_hall_kinds v_hall_wanted v_now_nights v_now_off v_hand_shown) H → va_D A (cs_PR_best cI cZ a_p0 a_hall a_hall_layers a_hall_kinds a_hall_wanted a_now a_now_off a_hand a_hand_shown z_text z_trial z_acts z_slots z_seen z_hall_patiences z_now_waited v_actCount v_slotsKept v_seed v_hall_count v_hall_layers v_hall_kinds v_hall_wanted v_now_nights v_now_off v_hand_shown) → va_S A s.heap H locs → lv_has ls 8 [] → f_PR_best_108  v_hall_count v_hall_layers v_hall_kinds v_hall_wanted v_now_off w0 v_hand_shown = some res → W p l e (rm_ 4 (40 * 4)) s m args below meth c H locs 0 0 Q (F0 m 108 ls [.int w0]) := by
    intro  w0 v_hand_shown H locs ls hP hD hS hl hf
    unfold f_PR_best_108 at hf
    have hr := Option.some.inj hf
    exact RET _ _ _ _ _ _ rfl (congrArg (fun r : Int32 × (Nat → Int32) => r.1) hr) (congrArg (fun r : Int32 × (Nat → Int32) => (cs_PR_best cI cZ a_p0 a_hall a_hall_layers a_hall_kinds a_hall_wanted a_now a_now_off a_hand a_hand_shown z_text z_trial z_acts z_slots z_seen z_hall_patiences z_now_waited v_actCount v_slotsKept v_seed v_hall_count v_hall_layers v_hall_kinds v_hall_wanted v_now_nights v_now_off r.2)) hr) hP hD hS d_PR_best_108
  have B_93 : ∀ (back_24 : Int32 → Int32 → Int32 → Int32 → (Nat → Int32) → Option (Int32 × (Nat → Int32))) (K_24 : ∀ (x1 : Int32) (x2 : Int32) (x3 : Int32) (x4 : Int32) (v_hand_shown : Nat → Int32) (H : Heap) (locs : List Loc) (ls : Array Slot), va_P D classes (cs_PR_best cI cZ a_p0 a_hall a_hall_layers a_hall_kinds a_hall_wanted a_now a_now_off a_hand a_hand_shown z_text z_trial z_acts z_slots z_seen z_hall_patiences z_now_waited v_actCount v_slotsKept v_seed v_hall_count v_hall_layers v_hall_kinds v_hall_wanted v_now_nights v_now_off v_hand_shown) H → va_D A (cs_PR_best cI cZ a_p0 a_hall a_hall_layers a_hall_kinds a_hall_wanted a_now a_now_off a_hand a_hand_shown z_text z_trial z_acts z_slots z_seen z_hall_patiences z_now_waited v_actCount v_slotsKept v_seed v_hall_count v_hall_layers v_hall_kinds v_hall_wanted v_now_nights v_now_off v_hand_shown) → va_S A s.heap H locs → lv_has ls 8 [(0, .ref a_p0), (1, .int x1), (2, .int x2), (3, .int x3), (4, .int x4)] → back_24 x1 x2 x3 x4 v_hand_shown = some res → W p l e (rm_ 4 (40 * 4)) s m args below meth c H locs 0 0 Q (F0 m 24 ls [])) (x1 : Int32) (x2 : Int32) (x3 : Int32) (x4 : Int32) (v_hand_shown : Nat → Int32) (H : Heap) (locs : List Loc) (ls : Array Slot), va_P D classes (cs_PR_best cI cZ a_p0 a_hall a_hall_layers a_hall_kinds a_hall_wanted a_now a_now_off a_hand a_hand_shown z_text z_trial z_acts z_slots z_seen z_hall_patiences z_now_waited v_actCount v_slotsKept v_seed v_hall_count v_hall_layers v_hall_kinds v_hall_wanted v_now_nights v_now_off v_hand_shown) H → va_D A (cs_PR_best cI cZ a_p0 a_hall a_hall_layers a_hall_kinds a_hall_wanted a_now a_now_off a_hand a_hand_shown z_text z_trial z_acts z_slots z_seen z_hall_patiences z_now_waited v_actCount v_slotsKept v_seed v_hall_count v_hall_layers v_hall_kinds v_hall_wanted v_now_nights v_now_off v_hand_shown) → va_S A s.heap H locs → lv_has ls 8 [(0, .ref a_p0), (1, .int x1), (2, .int x2), (3, .int x3), (4, .int x4)] → f_PR_best_93 back_24 v_hall_count v_hall_layers v_hall_kinds v_hall_wanted v_now_off x1 x2 x3 x4 v_hand_shown = some res → W p l e (rm_ 4 (40 * 4)) s m args below meth c H locs 0 0 Q (F0 m 93 ls []) := by
    intro back_24 K_24 x1 x2 x3 x4 v_hand_shown H locs ls hP hD hS hl hf
    unfold f_PR_best_93 at hf
    refine lv_iinc (v := x4 + 1) (lv' := [(4, .int (x4 + 1)), (0, .ref a_p0), (1, .int x1), (2, .int x2), (3, .int x3)]) hx hb d_PR_best_93 hl (k := 4) rfl (rfl) (by decide) rfl (fun ls hl => ?_)
    refine lv_goto (tgt := 24) hx hb d_PR_best_96 (by decide) ?_
    exact K_24 x1 x2 x3 (x4 + 1) v_hand_shown _ _ _ hP hD hS (lv_sub hl [1, 2, 3, 4, 0] rfl) hf
  have B_87 : ∀ (back_24 : Int32 → Int32 → Int32 → Int32 → (Nat → Int32) → Option (Int32 × (Nat → Int32))) (K_24 : ∀ (x1 : Int32) (x2 : Int32) (x3 : Int32) (x4 : Int32) (v_hand_shown : Nat → Int32) (H : Heap) (locs : List Loc) (ls : Array Slot), va_P D classes (cs_PR_best cI cZ a_p0 a_hall a_hall_layers a_hall_kinds a_hall_wanted a_now a_now_off a_hand a_hand_shown z_text z_trial z_acts z_slots z_seen z_hall_patiences z_now_waited v_actCount v_slotsKept v_seed v_hall_count v_hall_layers v_hall_kinds v_hall_wanted v_now_nights v_now_off v_hand_shown) H → va_D A (cs_PR_best cI cZ a_p0 a_hall a_hall_layers a_hall_kinds a_hall_wanted a_now a_now_off a_hand a_hand_shown z_text z_trial z_acts z_slots z_seen z_hall_patiences z_now_waited v_actCount v_slotsKept v_seed v_hall_count v_hall_layers v_hall_kinds v_hall_wanted v_now_nights v_now_off v_hand_shown) → va_S A s.heap H locs → lv_has ls 8 [(0, .ref a_p0), (1, .int x1), (2, .int x2), (3, .int x3), (4, .int x4)] → back_24 x1 x2 x3 x4 v_hand_shown = some res → W p l e (rm_ 4 (40 * 4)) s m args below meth c H locs 0 0 Q (F0 m 24 ls [])) (x1 : Int32) (x4 : Int32) (x5 : Int32) (x7 : Int32) (v_hand_shown : Nat → Int32) (H : Heap) (locs : List Loc) (ls : Array Slot), va_P D classes (cs_PR_best cI cZ a_p0 a_hall a_hall_layers a_hall_kinds a_hall_wanted a_now a_now_off a_hand a_hand_shown z_text z_trial z_acts z_slots z_seen z_hall_patiences z_now_waited v_actCount v_slotsKept v_seed v_hall_count v_hall_layers v_hall_kinds v_hall_wanted v_now_nights v_now_off v_hand_shown) H → va_D A (cs_PR_best cI cZ a_p0 a_hall a_hall_layers a_hall_kinds a_hall_wanted a_now a_now_off a_hand a_hand_shown z_text z_trial z_acts z_slots z_seen z_hall_patiences z_now_waited v_actCount v_slotsKept v_seed v_hall_count v_hall_layers v_hall_kinds v_hall_wanted v_now_nights v_now_off v_hand_shown) → va_S A s.heap H locs → lv_has ls 8 [(0, .ref a_p0), (1, .int x1), (4, .int x4), (5, .int x5), (7, .int x7)] → f_PR_best_87 back_24 v_hall_count v_hall_layers v_hall_kinds v_hall_wanted v_now_off x1 x4 x5 x7 v_hand_shown = some res → W p l e (rm_ 4 (40 * 4)) s m args below meth c H locs 0 0 Q (F0 m 87 ls []) := by
    intro back_24 K_24 x1 x4 x5 x7 v_hand_shown H locs ls hP hD hS hl hf
    unfold f_PR_best_87 at hf
    refine lv_iload hx hb d_PR_best_87 (lv_at hl 3 rfl) ?_
    refine lv_istore_n (lv' := [(2, .int x5), (0, .ref a_p0), (1, .int x1), (4, .int x4), (5, .int x5), (7, .int x7)]) hx hb d_PR_best_89 rfl hl (by decide) rfl (fun ls hl => ?_)
    refine lv_iload hx hb d_PR_best_90 (lv_at hl 5 rfl) ?_
    refine lv_istore_n (lv' := [(3, .int x7), (2, .int x5), (0, .ref a_p0), (1, .int x1), (4, .int x4), (5, .int x5), (7, .int x7)]) hx hb d_PR_best_92 rfl hl (by decide) rfl (fun ls hl => ?_)
    exact B_93 back_24 K_24 x1 x5 x7 x4 v_hand_shown _ _ _ hP hD hS (lv_sub hl [2, 3, 1, 0, 4] rfl) hf
  have B_24 : ∀  (n : Nat) (x1 : Int32) (x2 : Int32) (x3 : Int32) (x4 : Int32) (v_hand_shown : Nat → Int32) (H : Heap) (locs : List Loc) (ls : Array Slot), va_P D classes (cs_PR_best cI cZ a_p0 a_hall a_hall_layers a_hall_kinds a_hall_wanted a_now a_now_off a_hand a_hand_shown z_text z_trial z_acts z_slots z_seen z_hall_patiences z_now_waited v_actCount v_slotsKept v_seed v_hall_count v_hall_layers v_hall_kinds v_hall_wanted v_now_nights v_now_off v_hand_shown) H → va_D A (cs_PR_best cI cZ a_p0 a_hall a_hall_layers a_hall_kinds a_hall_wanted a_now a_now_off a_hand a_hand_shown z_text z_trial z_acts z_slots z_seen z_hall_patiences z_now_waited v_actCount v_slotsKept v_seed v_hall_count v_hall_layers v_hall_kinds v_hall_wanted v_now_nights v_now_off v_hand_shown) → va_S A s.heap H locs → lv_has ls 8 [(0, .ref a_p0), (1, .int x1), (2, .int x2), (3, .int x3), (4, .int x4)] → f_PR_best_24  v_hall_count v_hall_layers v_hall_kinds v_hall_wanted v_now_off n x1 x2 x3 x4 v_hand_shown = some res → W p l e (rm_ 4 (40 * 4)) s m args below meth c H locs 0 0 Q (F0 m 24 ls []) := by
    intro  n
    induction n with
    | zero => intro x1 x2 x3 x4 v_hand_shown H locs ls hP hD hS hl hf; exact nomatch hf
    | succ n ih =>
      intro x1 x2 x3 x4 v_hand_shown H locs ls hP hD hS hl hf
      have hf : f_PR_best_24_b  (f_PR_best_24  v_hall_count v_hall_layers v_hall_kinds v_hall_wanted v_now_off n) v_hall_count v_hall_layers v_hall_kinds v_hall_wanted v_now_off x1 x2 x3 x4 v_hand_shown = some res := hf
      generalize f_PR_best_24  v_hall_count v_hall_layers v_hall_kinds v_hall_wanted v_now_off n = back_24 at ih hf
      have K_24 := ih
      unfold f_PR_best_24_b at hf
      refine lv_iload hx hb d_PR_best_24 (lv_at hl 4 rfl) ?_
      refine lv_bipush (v := 81) hx hb d_PR_best_26 (by decide) ?_
      refine lv_icmp_ge (tgt := 99) hx hb d_PR_best_28 (by decide) (fun c1 => ?_) (fun c1 => ?_)
      · have hf := o_pos c1 hf
        refine lv_iload_n hx hb d_PR_best_99 rfl (lv_at hl 1 rfl) ?_
        refine lv_if_ne (tgt := 107) hx hb d_PR_best_100 (by decide) (fun c2 => ?_) (fun c2 => ?_)
        · have hf := o_neg c2 hf
          refine lv_iload_n hx hb d_PR_best_107 rfl (lv_at hl 3 rfl) ?_
          exact B_108 x3 v_hand_shown _ _ _ hP hD hS (lv_sub hl [] rfl) hf
        · have hf := o_pos c2 hf
          refine lv_iload_n hx hb d_PR_best_103 rfl (lv_at hl 2 rfl) ?_
          refine lv_goto (tgt := 108) hx hb d_PR_best_104 (by decide) ?_
          exact B_108 x2 v_hand_shown _ _ _ hP hD hS (lv_sub hl [] rfl) hf
      · have hf := o_neg c1 hf
        refine lv_iload hx hb d_PR_best_31 (lv_at hl 4 rfl) ?_
        obtain ⟨r3, h4, hf⟩ := o_bind hf
        refine cSi0 (rest := []) (c_PR_asCleaning l D cI cZ x4 r3 h4) hC hA hP hD hS hl.1 cw_PR_174 ⟨Nat.le_of_ble_eq_true rfl, Nat.le_of_ble_eq_true rfl⟩ rfl rfl (Nat.le_of_ble_eq_true rfl) d_PR_best_33 ⟨Nat.zero_le _, Nat.zero_le _⟩ (fun H locs hP hS => ?_)
        refine lv_istore (lv' := [(5, .int r3), (0, .ref a_p0), (1, .int x1), (2, .int x2), (3, .int x3), (4, .int x4)]) hx hb d_PR_best_36 hl (by decide) rfl (fun ls hl => ?_)
        refine lv_aload_n hx hb d_PR_best_38 rfl (lv_at hl 1 rfl) ?_
        refine lv_iload hx hb d_PR_best_39 (lv_at hl 0 rfl) ?_
        obtain ⟨r5, h6, hf⟩ := o_bind hf
        refine cVi (rest := []) (wr := []) (wn := (cs_PR_best cI cZ a_p0 a_hall a_hall_layers a_hall_kinds a_hall_wanted a_now a_now_off a_hand a_hand_shown z_text z_trial z_acts z_slots z_seen z_hall_patiences z_now_waited v_actCount v_slotsKept v_seed v_hall_count v_hall_layers v_hall_kinds v_hall_wanted v_now_nights v_now_off r5.2)) (c_PR_hailedBy l D cI cZ a_p0 a_hall a_hall_layers a_hall_kinds a_hall_wanted a_now a_now_off a_hand a_hand_shown z_text z_trial z_acts z_slots z_seen z_hall_patiences z_now_waited r3 v_actCount v_slotsKept v_seed v_hall_count v_hall_layers v_hall_kinds v_hall_wanted v_now_nights v_now_off v_hand_shown r5 h6) hC hA hP hD hS hl.1 cw_PR_168 0 rfl rfl rfl ⟨Nat.le_of_ble_eq_true rfl, Nat.le_of_ble_eq_true rfl⟩ rfl rfl (Nat.le_of_ble_eq_true rfl) d_PR_best_41 ⟨Nat.zero_le _, Nat.zero_le _⟩ [0, 1, 2, 3, 4, 5, 6, 7, 8] [] [0, 1, 2, 3, 4, 5, 6, 7, 8] (by decide) (Cut_mk rfl rfl (by decide) (by decide) (by decide) rfl) (fun H locs hP hD hS => ?_)
        refine lv_istore (lv' := [(6, .int r5.1), (5, .int r3), (0, .ref a_p0), (1, .int x1), (2, .int x2), (3, .int x3), (4, .int x4)]) hx hb d_PR_best_44 hl (by decide) rfl (fun ls hl => ?_)
        refine lv_iload hx hb d_PR_best_46 (lv_at hl 0 rfl) ?_
        refine lv_bipush (v := (-2)) hx hb d_PR_best_48 (by decide) ?_
        refine lv_icmp_ne (tgt := 56) hx hb d_PR_best_50 (by decide) (fun c7 => ?_) (fun c7 => ?_)
        · have hf := o_neg c7 hf
          refine lv_iload hx hb d_PR_best_56 (lv_at hl 0 rfl) ?_
          obtain ⟨r8, h9, hf⟩ := o_bind hf
          refine cSi0 (rest := []) (c_Int_bitCount l D cI cZ r5.1 r8 h9) hC hA hP hD hS hl.1 cw_PR_141 ⟨Nat.le_of_ble_eq_true rfl, Nat.le_of_ble_eq_true rfl⟩ rfl rfl (Nat.le_of_ble_eq_true rfl) d_PR_best_58 ⟨Nat.zero_le _, Nat.zero_le _⟩ (fun H locs hP hS => ?_)
          refine lv_istore (lv' := [(7, .int r8), (6, .int r5.1), (5, .int r3), (0, .ref a_p0), (1, .int x1), (2, .int x2), (3, .int x3), (4, .int x4)]) hx hb d_PR_best_61 hl (by decide) rfl (fun ls hl => ?_)
          refine lv_iload hx hb d_PR_best_63 (lv_at hl 0 rfl) ?_
          refine lv_iload_n hx hb d_PR_best_65 rfl (lv_at hl 6 rfl) ?_
          refine lv_icmp_gt (tgt := 87) hx hb d_PR_best_66 (by decide) (fun c10 => ?_) (fun c10 => ?_)
          · have hf := o_pos c10 hf
            exact B_87 back_24 K_24 x1 x4 r3 r8 r5.2 _ _ _ hP hD hS (lv_sub hl [3, 4, 7, 2, 0] rfl) hf
          · have hf := o_neg c10 hf
            refine lv_iload hx hb d_PR_best_69 (lv_at hl 0 rfl) ?_
            refine lv_iload_n hx hb d_PR_best_71 rfl (lv_at hl 6 rfl) ?_
            refine lv_icmp_ne (tgt := 93) hx hb d_PR_best_72 (by decide) (fun c11 => ?_) (fun c11 => ?_)
            · have hf := o_neg c11 hf
              exact B_93 back_24 K_24 x1 x2 x3 x4 r5.2 _ _ _ hP hD hS (lv_sub hl [3, 4, 5, 6, 7] rfl) hf
            · have hf := o_pos c11 hf
              refine lv_iload hx hb d_PR_best_75 (lv_at hl 2 rfl) ?_
              obtain ⟨r12, h13, hf⟩ := o_bind hf
              refine cSi0 (rest := []) (c_PR_layersOf l D cI cZ r3 r12 h13) hC hA hP hD hS hl.1 cw_PR_177 ⟨Nat.le_of_ble_eq_true rfl, Nat.le_of_ble_eq_true rfl⟩ rfl rfl (Nat.le_of_ble_eq_true rfl) d_PR_best_77 ⟨Nat.zero_le _, Nat.zero_le _⟩ (fun H locs hP hS => ?_)
              refine lv_iload_n hx hb d_PR_best_80 rfl (lv_at hl 5 rfl) ?_
              obtain ⟨r14, h15, hf⟩ := o_bind hf
              refine cSi0 (rest := [.int r12]) (c_PR_layersOf l D cI cZ x2 r14 h15) hC hA hP hD hS hl.1 cw_PR_177 ⟨Nat.le_of_ble_eq_true rfl, Nat.le_of_ble_eq_true rfl⟩ rfl rfl (Nat.le_of_ble_eq_true rfl) d_PR_best_81 ⟨Nat.zero_le _, Nat.zero_le _⟩ (fun H locs hP hS => ?_)
              refine lv_icmp_ge (tgt := 93) hx hb d_PR_best_84 (by decide) (fun c16 => ?_) (fun c16 => ?_)
              · have hf := o_pos c16 hf
                exact B_93 back_24 K_24 x1 x2 x3 x4 r5.2 _ _ _ hP hD hS (lv_sub hl [3, 4, 5, 6, 7] rfl) hf
              · have hf := o_neg c16 hf
                exact B_87 back_24 K_24 x1 x4 r3 r8 r5.2 _ _ _ hP hD hS (lv_sub hl [3, 4, 7, 2, 0] rfl) hf
        · have hf := o_pos c7 hf
          refine lv_goto (tgt := 93) hx hb d_PR_best_53 (by decide) ?_
          exact B_93 back_24 K_24 x1 x2 x3 x4 r5.2 _ _ _ hP hD hS (lv_sub hl [2, 3, 4, 5, 6] rfl) hf
  unfold f_PR_best at hf
  have E : ∀ (H : Heap) (locs : List Loc), va_P D classes (cs_PR_best cI cZ a_p0 a_hall a_hall_layers a_hall_kinds a_hall_wanted a_now a_now_off a_hand a_hand_shown z_text z_trial z_acts z_slots z_seen z_hall_patiences z_now_waited v_actCount v_slotsKept v_seed v_hall_count v_hall_layers v_hall_kinds v_hall_wanted v_now_nights v_now_off v_hand_shown) H → va_S A s.heap H locs → W p l e (rm_ 4 (40 * 4)) s m args below meth c H locs 0 0 Q (F0 m 0 ls []) := by
    intro H locs hP hS
    refine lv_iload_n hx hb d_PR_best_0 rfl (lv_at hl 1 rfl) ?_
    obtain ⟨r1, h2, hf⟩ := o_bind hf
    refine cSi0 (rest := []) (c_PR_isOneOfTwo l D cI cZ i1 r1 h2) hC hA hP hD hS hl.1 cw_PR_171 ⟨Nat.le_of_ble_eq_true rfl, Nat.le_of_ble_eq_true rfl⟩ rfl rfl (Nat.le_of_ble_eq_true rfl) d_PR_best_1 ⟨Nat.zero_le _, Nat.zero_le _⟩ (fun H locs hP hS => ?_)
    refine lv_if_ne (tgt := 10) hx hb d_PR_best_4 (by decide) (fun c3 => ?_) (fun c3 => ?_)
    · have hf := o_neg c3 hf
      refine lv_iconst (v := 0) hx hb d_PR_best_10 (by decide) ?_
      refine lv_istore_n (lv' := [(2, .int 0), (0, .ref a_p0), (1, .int i1)]) hx hb d_PR_best_11 rfl hl (by decide) rfl (fun ls hl => ?_)
      refine lv_aload_n hx hb d_PR_best_12 rfl (lv_at hl 1 rfl) ?_
      refine lv_iload_n hx hb d_PR_best_13 rfl (lv_at hl 0 rfl) ?_
      obtain ⟨r4, h5, hf⟩ := o_bind hf
      refine cVi (rest := []) (wr := []) (wn := (cs_PR_best cI cZ a_p0 a_hall a_hall_layers a_hall_kinds a_hall_wanted a_now a_now_off a_hand a_hand_shown z_text z_trial z_acts z_slots z_seen z_hall_patiences z_now_waited v_actCount v_slotsKept v_seed v_hall_count v_hall_layers v_hall_kinds v_hall_wanted v_now_nights v_now_off r4.2)) (c_PR_hailedBy l D cI cZ a_p0 a_hall a_hall_layers a_hall_kinds a_hall_wanted a_now a_now_off a_hand a_hand_shown z_text z_trial z_acts z_slots z_seen z_hall_patiences z_now_waited 0 v_actCount v_slotsKept v_seed v_hall_count v_hall_layers v_hall_kinds v_hall_wanted v_now_nights v_now_off v_hand_shown r4 h5) hC hA hP hD hS hl.1 cw_PR_168 0 rfl rfl rfl ⟨Nat.le_of_ble_eq_true rfl, Nat.le_of_ble_eq_true rfl⟩ rfl rfl (Nat.le_of_ble_eq_true rfl) d_PR_best_14 ⟨Nat.zero_le _, Nat.zero_le _⟩ [0, 1, 2, 3, 4, 5, 6, 7, 8] [] [0, 1, 2, 3, 4, 5, 6, 7, 8] (by decide) (Cut_mk rfl rfl (by decide) (by decide) (by decide) rfl) (fun H locs hP hD hS => ?_)
      obtain ⟨r6, h7, hf⟩ := o_bind hf
      refine cSi0 (rest := []) (c_Int_bitCount l D cI cZ r4.1 r6 h7) hC hA hP hD hS hl.1 cw_PR_141 ⟨Nat.le_of_ble_eq_true rfl, Nat.le_of_ble_eq_true rfl⟩ rfl rfl (Nat.le_of_ble_eq_true rfl) d_PR_best_17 ⟨Nat.zero_le _, Nat.zero_le _⟩ (fun H locs hP hS => ?_)
      refine lv_istore_n (lv' := [(3, .int r6), (2, .int 0), (0, .ref a_p0), (1, .int i1)]) hx hb d_PR_best_20 rfl hl (by decide) rfl (fun ls hl => ?_)
      refine lv_iconst (v := 1) hx hb d_PR_best_21 (by decide) ?_
      refine lv_istore (lv' := [(4, .int 1), (3, .int r6), (2, .int 0), (0, .ref a_p0), (1, .int i1)]) hx hb d_PR_best_22 hl (by decide) rfl (fun ls hl => ?_)
      exact B_24 300 i1 0 r6 1 r4.2 _ _ _ hP hD hS (lv_sub hl [3, 4, 2, 1, 0] rfl) hf
    · have hf := o_pos c3 hf
      refine lv_bipush (v := (-2)) hx hb d_PR_best_7 (by decide) ?_
      have hr := Option.some.inj hf
      exact RET _ _ _ _ _ _ rfl (congrArg (fun r : Int32 × (Nat → Int32) => r.1) hr) (congrArg (fun r : Int32 × (Nat → Int32) => (cs_PR_best cI cZ a_p0 a_hall a_hall_layers a_hall_kinds a_hall_wanted a_now a_now_off a_hand a_hand_shown z_text z_trial z_acts z_slots z_seen z_hall_patiences z_now_waited v_actCount v_slotsKept v_seed v_hall_count v_hall_layers v_hall_kinds v_hall_wanted v_now_nights v_now_off r.2)) hr) hP hD hS d_PR_best_9
  exact E _ _ hP hS
set_option maxHeartbeats 4000000 in
set_option maxRecDepth 100000 in
theorem c_PR_leastCleaning (l : Launch) (D : va_G) (cI cZ : ClassId) (a_p0 a_hall a_hall_layers a_hall_kinds a_hall_wanted a_now a_now_off a_hand a_hand_shown z_text z_trial z_acts z_slots z_seen z_hall_patiences z_now_waited : Nat) (i1 : Int32) (i2 : Int32) (v_actCount : Int32) (v_slotsKept : Int32) (v_seed : Int64) (v_hall_count : Int32) (v_hall_layers : Nat → Int32) (v_hall_kinds : Nat → Int32) (v_hall_wanted : Nat → Int32) (v_now_nights : Int32) (v_now_off : Nat → Int32) (v_hand_shown : Nat → Int32) (res : Int32 × (Nat → Int32)) (hf : f_PR_leastCleaning i1 i2 v_hall_count v_hall_layers v_hall_kinds v_hall_wanted v_now_off v_hand_shown = some res) : CtI l y_PR_leastCleaning b_PR_leastCleaning 7 (some .int) 4 D cI cZ [.ref a_p0, .int i1, .int i2] (cs_PR_leastCleaning cI cZ a_p0 a_hall a_hall_layers a_hall_kinds a_hall_wanted a_now a_now_off a_hand a_hand_shown z_text z_trial z_acts z_slots z_seen z_hall_patiences z_now_waited v_actCount v_slotsKept v_seed v_hall_count v_hall_layers v_hall_kinds v_hall_wanted v_now_nights v_now_off v_hand_shown) res.1 (cs_PR_leastCleaning cI cZ a_p0 a_hall a_hall_layers a_hall_kinds a_hall_wanted a_now a_now_off a_hand a_hand_shown z_text z_trial z_acts z_slots z_seen z_hall_patiences z_now_waited v_actCount v_slotsKept v_seed v_hall_count v_hall_layers v_hall_kinds v_hall_wanted v_now_nights v_now_off res.2) := by
  refine CtI_mk (by decide) (Nat.le_of_ble_eq_true rfl) ?_
  intro p e s m args below meth c A Q hC hA hP hD RET ls hl
  have hC : Cx p s m args meth c b_PR_leastCleaning 7 R_PR D cI cZ := hC
  have hl : lv_has ls 7 [(0, .ref a_p0), (1, .int i1), (2, .int i2)] := hl
  obtain ⟨hx, hb, hml, hown, hts, hlk, hKK⟩ := id hC
  have hS : va_S A s.heap s.heap [] := va_S.rf
  have B_67 : ∀ (back_6 : Int32 → Int32 → Int32 → Int32 → (Nat → Int32) → Option (Int32 × (Nat → Int32))) (K_6 : ∀ (x1 : Int32) (x2 : Int32) (x3 : Int32) (x4 : Int32) (v_hand_shown : Nat → Int32) (H : Heap) (locs : List Loc) (ls : Array Slot), va_P D classes (cs_PR_leastCleaning cI cZ a_p0 a_hall a_hall_layers a_hall_kinds a_hall_wanted a_now a_now_off a_hand a_hand_shown z_text z_trial z_acts z_slots z_seen z_hall_patiences z_now_waited v_actCount v_slotsKept v_seed v_hall_count v_hall_layers v_hall_kinds v_hall_wanted v_now_nights v_now_off v_hand_shown) H → va_D A (cs_PR_leastCleaning cI cZ a_p0 a_hall a_hall_layers a_hall_kinds a_hall_wanted a_now a_now_off a_hand a_hand_shown z_text z_trial z_acts z_slots z_seen z_hall_patiences z_now_waited v_actCount v_slotsKept v_seed v_hall_count v_hall_layers v_hall_kinds v_hall_wanted v_now_nights v_now_off v_hand_shown) → va_S A s.heap H locs → lv_has ls 7 [(0, .ref a_p0), (1, .int x1), (2, .int x2), (3, .int x3), (4, .int x4)] → back_6 x1 x2 x3 x4 v_hand_shown = some res → W p l e (rm_ 4 (40 * 4)) s m args below meth c H locs 0 0 Q (F0 m 6 ls [])) (x1 : Int32) (x2 : Int32) (x3 : Int32) (x4 : Int32) (v_hand_shown : Nat → Int32) (H : Heap) (locs : List Loc) (ls : Array Slot), va_P D classes (cs_PR_leastCleaning cI cZ a_p0 a_hall a_hall_layers a_hall_kinds a_hall_wanted a_now a_now_off a_hand a_hand_shown z_text z_trial z_acts z_slots z_seen z_hall_patiences z_now_waited v_actCount v_slotsKept v_seed v_hall_count v_hall_layers v_hall_kinds v_hall_wanted v_now_nights v_now_off v_hand_shown) H → va_D A (cs_PR_leastCleaning cI cZ a_p0 a_hall a_hall_layers a_hall_kinds a_hall_wanted a_now a_now_off a_hand a_hand_shown z_text z_trial z_acts z_slots z_seen z_hall_patiences z_now_waited v_actCount v_slotsKept v_seed v_hall_count v_hall_layers v_hall_kinds v_hall_wanted v_now_nights v_now_off v_hand_shown) → va_S A s.heap H locs → lv_has ls 7 [(0, .ref a_p0), (1, .int x1), (2, .int x2), (3, .int x3), (4, .int x4)] → f_PR_leastCleaning_67 back_6 v_hall_count v_hall_layers v_hall_kinds v_hall_wanted v_now_off x1 x2 x3 x4 v_hand_shown = some res → W p l e (rm_ 4 (40 * 4)) s m args below meth c H locs 0 0 Q (F0 m 67 ls []) := by
    intro back_6 K_6 x1 x2 x3 x4 v_hand_shown H locs ls hP hD hS hl hf
    unfold f_PR_leastCleaning_67 at hf
    refine lv_iinc (v := x4 + 1) (lv' := [(4, .int (x4 + 1)), (0, .ref a_p0), (1, .int x1), (2, .int x2), (3, .int x3)]) hx hb d_PR_leastCleaning_67 hl (k := 4) rfl (rfl) (by decide) rfl (fun ls hl => ?_)
    refine lv_goto (tgt := 6) hx hb d_PR_leastCleaning_70 (by decide) ?_
    exact K_6 x1 x2 x3 (x4 + 1) v_hand_shown _ _ _ hP hD hS (lv_sub hl [1, 2, 3, 4, 0] rfl) hf
  have B_64 : ∀ (back_6 : Int32 → Int32 → Int32 → Int32 → (Nat → Int32) → Option (Int32 × (Nat → Int32))) (K_6 : ∀ (x1 : Int32) (x2 : Int32) (x3 : Int32) (x4 : Int32) (v_hand_shown : Nat → Int32) (H : Heap) (locs : List Loc) (ls : Array Slot), va_P D classes (cs_PR_leastCleaning cI cZ a_p0 a_hall a_hall_layers a_hall_kinds a_hall_wanted a_now a_now_off a_hand a_hand_shown z_text z_trial z_acts z_slots z_seen z_hall_patiences z_now_waited v_actCount v_slotsKept v_seed v_hall_count v_hall_layers v_hall_kinds v_hall_wanted v_now_nights v_now_off v_hand_shown) H → va_D A (cs_PR_leastCleaning cI cZ a_p0 a_hall a_hall_layers a_hall_kinds a_hall_wanted a_now a_now_off a_hand a_hand_shown z_text z_trial z_acts z_slots z_seen z_hall_patiences z_now_waited v_actCount v_slotsKept v_seed v_hall_count v_hall_layers v_hall_kinds v_hall_wanted v_now_nights v_now_off v_hand_shown) → va_S A s.heap H locs → lv_has ls 7 [(0, .ref a_p0), (1, .int x1), (2, .int x2), (3, .int x3), (4, .int x4)] → back_6 x1 x2 x3 x4 v_hand_shown = some res → W p l e (rm_ 4 (40 * 4)) s m args below meth c H locs 0 0 Q (F0 m 6 ls [])) (x1 : Int32) (x2 : Int32) (x4 : Int32) (x5 : Int32) (v_hand_shown : Nat → Int32) (H : Heap) (locs : List Loc) (ls : Array Slot), va_P D classes (cs_PR_leastCleaning cI cZ a_p0 a_hall a_hall_layers a_hall_kinds a_hall_wanted a_now a_now_off a_hand a_hand_shown z_text z_trial z_acts z_slots z_seen z_hall_patiences z_now_waited v_actCount v_slotsKept v_seed v_hall_count v_hall_layers v_hall_kinds v_hall_wanted v_now_nights v_now_off v_hand_shown) H → va_D A (cs_PR_leastCleaning cI cZ a_p0 a_hall a_hall_layers a_hall_kinds a_hall_wanted a_now a_now_off a_hand a_hand_shown z_text z_trial z_acts z_slots z_seen z_hall_patiences z_now_waited v_actCount v_slotsKept v_seed v_hall_count v_hall_layers v_hall_kinds v_hall_wanted v_now_nights v_now_off v_hand_shown) → va_S A s.heap H locs → lv_has ls 7 [(0, .ref a_p0), (1, .int x1), (2, .int x2), (4, .int x4), (5, .int x5)] → f_PR_leastCleaning_64 back_6 v_hall_count v_hall_layers v_hall_kinds v_hall_wanted v_now_off x1 x2 x4 x5 v_hand_shown = some res → W p l e (rm_ 4 (40 * 4)) s m args below meth c H locs 0 0 Q (F0 m 64 ls []) := by
    intro back_6 K_6 x1 x2 x4 x5 v_hand_shown H locs ls hP hD hS hl hf
    unfold f_PR_leastCleaning_64 at hf
    refine lv_iload hx hb d_PR_leastCleaning_64 (lv_at hl 4 rfl) ?_
    refine lv_istore_n (lv' := [(3, .int x5), (0, .ref a_p0), (1, .int x1), (2, .int x2), (4, .int x4), (5, .int x5)]) hx hb d_PR_leastCleaning_66 rfl hl (by decide) rfl (fun ls hl => ?_)
    exact B_67 back_6 K_6 x1 x2 x5 x4 v_hand_shown _ _ _ hP hD hS (lv_sub hl [1, 2, 3, 0, 4] rfl) hf
  have B_6 : ∀  (n : Nat) (x1 : Int32) (x2 : Int32) (x3 : Int32) (x4 : Int32) (v_hand_shown : Nat → Int32) (H : Heap) (locs : List Loc) (ls : Array Slot), va_P D classes (cs_PR_leastCleaning cI cZ a_p0 a_hall a_hall_layers a_hall_kinds a_hall_wanted a_now a_now_off a_hand a_hand_shown z_text z_trial z_acts z_slots z_seen z_hall_patiences z_now_waited v_actCount v_slotsKept v_seed v_hall_count v_hall_layers v_hall_kinds v_hall_wanted v_now_nights v_now_off v_hand_shown) H → va_D A (cs_PR_leastCleaning cI cZ a_p0 a_hall a_hall_layers a_hall_kinds a_hall_wanted a_now a_now_off a_hand a_hand_shown z_text z_trial z_acts z_slots z_seen z_hall_patiences z_now_waited v_actCount v_slotsKept v_seed v_hall_count v_hall_layers v_hall_kinds v_hall_wanted v_now_nights v_now_off v_hand_shown) → va_S A s.heap H locs → lv_has ls 7 [(0, .ref a_p0), (1, .int x1), (2, .int x2), (3, .int x3), (4, .int x4)] → f_PR_leastCleaning_6  v_hall_count v_hall_layers v_hall_kinds v_hall_wanted v_now_off n x1 x2 x3 x4 v_hand_shown = some res → W p l e (rm_ 4 (40 * 4)) s m args below meth c H locs 0 0 Q (F0 m 6 ls []) := by
    intro  n
    induction n with
    | zero => intro x1 x2 x3 x4 v_hand_shown H locs ls hP hD hS hl hf; exact nomatch hf
    | succ n ih =>
      intro x1 x2 x3 x4 v_hand_shown H locs ls hP hD hS hl hf
      have hf : f_PR_leastCleaning_6_b  (f_PR_leastCleaning_6  v_hall_count v_hall_layers v_hall_kinds v_hall_wanted v_now_off n) v_hall_count v_hall_layers v_hall_kinds v_hall_wanted v_now_off x1 x2 x3 x4 v_hand_shown = some res := hf
      generalize f_PR_leastCleaning_6  v_hall_count v_hall_layers v_hall_kinds v_hall_wanted v_now_off n = back_6 at ih hf
      have K_6 := ih
      unfold f_PR_leastCleaning_6_b at hf
      refine lv_iload hx hb d_PR_leastCleaning_6 (lv_at hl 4 rfl) ?_
      refine lv_bipush (v := 81) hx hb d_PR_leastCleaning_8 (by decide) ?_
      refine lv_icmp_ge (tgt := 73) hx hb d_PR_leastCleaning_10 (by decide) (fun c1 => ?_) (fun c1 => ?_)
      · have hf := o_pos c1 hf
        refine lv_iload_n hx hb d_PR_leastCleaning_73 rfl (lv_at hl 3 rfl) ?_
        have hr := Option.some.inj hf
        exact RET _ _ _ _ _ _ rfl (congrArg (fun r : Int32 × (Nat → Int32) => r.1) hr) (congrArg (fun r : Int32 × (Nat → Int32) => (cs_PR_leastCleaning cI cZ a_p0 a_hall a_hall_layers a_hall_kinds a_hall_wanted a_now a_now_off a_hand a_hand_shown z_text z_trial z_acts z_slots z_seen z_hall_patiences z_now_waited v_actCount v_slotsKept v_seed v_hall_count v_hall_layers v_hall_kinds v_hall_wanted v_now_nights v_now_off r.2)) hr) hP hD hS d_PR_leastCleaning_74
      · have hf := o_neg c1 hf
        refine lv_iload hx hb d_PR_leastCleaning_13 (lv_at hl 4 rfl) ?_
        obtain ⟨r2, h3, hf⟩ := o_bind hf
        refine cSi0 (rest := []) (c_PR_asCleaning l D cI cZ x4 r2 h3) hC hA hP hD hS hl.1 cw_PR_174 ⟨Nat.le_of_ble_eq_true rfl, Nat.le_of_ble_eq_true rfl⟩ rfl rfl (Nat.le_of_ble_eq_true rfl) d_PR_leastCleaning_15 ⟨Nat.zero_le _, Nat.zero_le _⟩ (fun H locs hP hS => ?_)
        refine lv_istore (lv' := [(5, .int r2), (0, .ref a_p0), (1, .int x1), (2, .int x2), (3, .int x3), (4, .int x4)]) hx hb d_PR_leastCleaning_18 hl (by decide) rfl (fun ls hl => ?_)
        refine lv_aload_n hx hb d_PR_leastCleaning_20 rfl (lv_at hl 1 rfl) ?_
        refine lv_iload hx hb d_PR_leastCleaning_21 (lv_at hl 0 rfl) ?_
        obtain ⟨r4, h5, hf⟩ := o_bind hf
        refine cVi (rest := []) (wr := []) (wn := (cs_PR_leastCleaning cI cZ a_p0 a_hall a_hall_layers a_hall_kinds a_hall_wanted a_now a_now_off a_hand a_hand_shown z_text z_trial z_acts z_slots z_seen z_hall_patiences z_now_waited v_actCount v_slotsKept v_seed v_hall_count v_hall_layers v_hall_kinds v_hall_wanted v_now_nights v_now_off r4.2)) (c_PR_hailedBy l D cI cZ a_p0 a_hall a_hall_layers a_hall_kinds a_hall_wanted a_now a_now_off a_hand a_hand_shown z_text z_trial z_acts z_slots z_seen z_hall_patiences z_now_waited r2 v_actCount v_slotsKept v_seed v_hall_count v_hall_layers v_hall_kinds v_hall_wanted v_now_nights v_now_off v_hand_shown r4 h5) hC hA hP hD hS hl.1 cw_PR_168 0 rfl rfl rfl ⟨Nat.le_of_ble_eq_true rfl, Nat.le_of_ble_eq_true rfl⟩ rfl rfl (Nat.le_of_ble_eq_true rfl) d_PR_leastCleaning_23 ⟨Nat.zero_le _, Nat.zero_le _⟩ [0, 1, 2, 3, 4, 5, 6, 7, 8] [] [0, 1, 2, 3, 4, 5, 6, 7, 8] (by decide) (Cut_mk rfl rfl (by decide) (by decide) (by decide) rfl) (fun H locs hP hD hS => ?_)
        refine lv_istore (lv' := [(6, .int r4.1), (5, .int r2), (0, .ref a_p0), (1, .int x1), (2, .int x2), (3, .int x3), (4, .int x4)]) hx hb d_PR_leastCleaning_26 hl (by decide) rfl (fun ls hl => ?_)
        refine lv_iload hx hb d_PR_leastCleaning_28 (lv_at hl 0 rfl) ?_
        refine lv_bipush (v := (-2)) hx hb d_PR_leastCleaning_30 (by decide) ?_
        refine lv_icmp_eq (tgt := 67) hx hb d_PR_leastCleaning_32 (by decide) (fun c6 => ?_) (fun c6 => ?_)
        · have hf := o_pos c6 hf
          exact B_67 back_6 K_6 x1 x2 x3 x4 r4.2 _ _ _ hP hD hS (lv_sub hl [2, 3, 4, 5, 6] rfl) hf
        · have hf := o_neg c6 hf
          refine lv_iload hx hb d_PR_leastCleaning_35 (lv_at hl 0 rfl) ?_
          refine lv_iload_n hx hb d_PR_leastCleaning_37 rfl (lv_at hl 3 rfl) ?_
          refine lv_iand hx hb d_PR_leastCleaning_38 ?_
          refine lv_iload_n hx hb d_PR_leastCleaning_39 rfl (lv_at hl 4 rfl) ?_
          refine lv_icmp_eq (tgt := 46) hx hb d_PR_leastCleaning_40 (by decide) (fun c7 => ?_) (fun c7 => ?_)
          · have hf := o_pos c7 hf
            refine lv_iload_n hx hb d_PR_leastCleaning_46 rfl (lv_at hl 5 rfl) ?_
            refine lv_bipush (v := (-9)) hx hb d_PR_leastCleaning_47 (by decide) ?_
            refine lv_icmp_eq (tgt := 64) hx hb d_PR_leastCleaning_49 (by decide) (fun c8 => ?_) (fun c8 => ?_)
            · have hf := o_pos c8 hf
              exact B_64 back_6 K_6 x1 x2 x4 r2 r4.2 _ _ _ hP hD hS (lv_sub hl [2, 3, 4, 6, 1] rfl) hf
            · have hf := o_neg c8 hf
              refine lv_iload hx hb d_PR_leastCleaning_52 (lv_at hl 1 rfl) ?_
              obtain ⟨r9, h10, hf⟩ := o_bind hf
              refine cSi0 (rest := []) (c_PR_layersOf l D cI cZ r2 r9 h10) hC hA hP hD hS hl.1 cw_PR_177 ⟨Nat.le_of_ble_eq_true rfl, Nat.le_of_ble_eq_true rfl⟩ rfl rfl (Nat.le_of_ble_eq_true rfl) d_PR_leastCleaning_54 ⟨Nat.zero_le _, Nat.zero_le _⟩ (fun H locs hP hS => ?_)
              refine lv_iload_n hx hb d_PR_leastCleaning_57 rfl (lv_at hl 5 rfl) ?_
              obtain ⟨r11, h12, hf⟩ := o_bind hf
              refine cSi0 (rest := [.int r9]) (c_PR_layersOf l D cI cZ x3 r11 h12) hC hA hP hD hS hl.1 cw_PR_177 ⟨Nat.le_of_ble_eq_true rfl, Nat.le_of_ble_eq_true rfl⟩ rfl rfl (Nat.le_of_ble_eq_true rfl) d_PR_leastCleaning_58 ⟨Nat.zero_le _, Nat.zero_le _⟩ (fun H locs hP hS => ?_)
              refine lv_icmp_ge (tgt := 67) hx hb d_PR_leastCleaning_61 (by decide) (fun c13 => ?_) (fun c13 => ?_)
              · have hf := o_pos c13 hf
                exact B_67 back_6 K_6 x1 x2 x3 x4 r4.2 _ _ _ hP hD hS (lv_sub hl [2, 3, 4, 5, 6] rfl) hf
              · have hf := o_neg c13 hf
                exact B_64 back_6 K_6 x1 x2 x4 r2 r4.2 _ _ _ hP hD hS (lv_sub hl [2, 3, 4, 6, 1] rfl) hf
          · have hf := o_neg c7 hf
            refine lv_goto (tgt := 67) hx hb d_PR_leastCleaning_43 (by decide) ?_
            exact B_67 back_6 K_6 x1 x2 x3 x4 r4.2 _ _ _ hP hD hS (lv_sub hl [2, 3, 4, 5, 6] rfl) hf
  unfold f_PR_leastCleaning at hf
  have E : ∀ (H : Heap) (locs : List Loc), va_P D classes (cs_PR_leastCleaning cI cZ a_p0 a_hall a_hall_layers a_hall_kinds a_hall_wanted a_now a_now_off a_hand a_hand_shown z_text z_trial z_acts z_slots z_seen z_hall_patiences z_now_waited v_actCount v_slotsKept v_seed v_hall_count v_hall_layers v_hall_kinds v_hall_wanted v_now_nights v_now_off v_hand_shown) H → va_S A s.heap H locs → W p l e (rm_ 4 (40 * 4)) s m args below meth c H locs 0 0 Q (F0 m 0 ls []) := by
    intro H locs hP hS
    refine lv_bipush (v := (-9)) hx hb d_PR_leastCleaning_0 (by decide) ?_
    refine lv_istore_n (lv' := [(3, .int ((-9))), (0, .ref a_p0), (1, .int i1), (2, .int i2)]) hx hb d_PR_leastCleaning_2 rfl hl (by decide) rfl (fun ls hl => ?_)
    refine lv_iconst (v := 0) hx hb d_PR_leastCleaning_3 (by decide) ?_
    refine lv_istore (lv' := [(4, .int 0), (3, .int ((-9))), (0, .ref a_p0), (1, .int i1), (2, .int i2)]) hx hb d_PR_leastCleaning_4 hl (by decide) rfl (fun ls hl => ?_)
    exact B_6 300 i1 i2 ((-9)) 0 v_hand_shown _ _ _ hP hD hS (lv_sub hl [2, 3, 4, 1, 0] rfl) hf
  exact E _ _ hP hS
set_option maxHeartbeats 4000000 in
set_option maxRecDepth 100000 in
theorem c_PR_tellCleaning (l : Launch) (D : va_G) (cI cZ : ClassId) (i0 : Int32) (i1 : Int32) (res : Int32) (hf : f_PR_tellCleaning i0 i1 = some res) : CtI l y_PR_tellCleaning b_PR_tellCleaning 2 (some .int) 1 D cI cZ [.int i0, .int i1] [] res [] := by
  refine CtI_mk (by decide) (Nat.le_of_ble_eq_true rfl) ?_
  intro p e s m args below meth c A Q hC hA hP hD RET ls hl
  have hC : Cx p s m args meth c b_PR_tellCleaning 2 R_PR D cI cZ := hC
  have hl : lv_has ls 2 [(0, .int i0), (1, .int i1)] := hl
  obtain ⟨hx, hb, hml, hown, hts, hlk, hKK⟩ := id hC
  have hS : va_S A s.heap s.heap [] := va_S.rf
  have B_18 : ∀  (w0 : Int32) (H : Heap) (locs : List Loc) (ls : Array Slot), va_P D classes [] H → va_D A [] → va_S A s.heap H locs → lv_has ls 2 [] → f_PR_tellCleaning_18   w0 = some res → W p l e (rm_ 1 (40 * 1)) s m args below meth c H locs 0 0 Q (F0 m 18 ls [.int w0]) := by
    intro  w0 H locs ls hP hD hS hl hf
    unfold f_PR_tellCleaning_18 at hf
    have hr := Option.some.inj hf
    exact RET _ _ _ _ _ _ rfl (congrArg (fun r : Int32 => r) hr) rfl hP hD hS d_PR_tellCleaning_18
  have B_10 : ∀  (x0 : Int32) (H : Heap) (locs : List Loc) (ls : Array Slot), va_P D classes [] H → va_D A [] → va_S A s.heap H locs → lv_has ls 2 [(0, .int x0)] → f_PR_tellCleaning_10   x0 = some res → W p l e (rm_ 1 (40 * 1)) s m args below meth c H locs 0 0 Q (F0 m 10 ls []) := by
    intro  x0 H locs ls hP hD hS hl hf
    unfold f_PR_tellCleaning_10 at hf
    refine lv_iload_n hx hb d_PR_tellCleaning_10 rfl (lv_at hl 0 rfl) ?_
    refine lv_goto (tgt := 18) hx hb d_PR_tellCleaning_11 (by decide) ?_
    exact B_18 x0 _ _ _ hP hD hS (lv_sub hl [] rfl) hf
  unfold f_PR_tellCleaning at hf
  have E : ∀ (H : Heap) (locs : List Loc), va_P D classes [] H → va_S A s.heap H locs → W p l e (rm_ 1 (40 * 1)) s m args below meth c H locs 0 0 Q (F0 m 0 ls []) := by
    intro H locs hP hS
    refine lv_iload_n hx hb d_PR_tellCleaning_0 rfl (lv_at hl 0 rfl) ?_
    refine lv_bipush (v := (-9)) hx hb d_PR_tellCleaning_1 (by decide) ?_
    refine lv_icmp_eq (tgt := 10) hx hb d_PR_tellCleaning_3 (by decide) (fun c1 => ?_) (fun c1 => ?_)
    · have hf := o_pos c1 hf
      exact B_10 i0 _ _ _ hP hD hS (lv_sub hl [0] rfl) hf
    · have hf := o_neg c1 hf
      refine lv_iload_n hx hb d_PR_tellCleaning_6 rfl (lv_at hl 1 rfl) ?_
      refine lv_if_ne (tgt := 14) hx hb d_PR_tellCleaning_7 (by decide) (fun c2 => ?_) (fun c2 => ?_)
      · have hf := o_neg c2 hf
        refine lv_iload_n hx hb d_PR_tellCleaning_14 rfl (lv_at hl 0 rfl) ?_
        obtain ⟨r3, h4, hf⟩ := o_bind hf
        refine cSi0 (rest := []) (c_PR_layersOf l D cI cZ i0 r3 h4) hC hA hP hD hS hl.1 cw_PR_177 ⟨Nat.le_of_ble_eq_true rfl, Nat.le_of_ble_eq_true rfl⟩ rfl rfl (Nat.le_of_ble_eq_true rfl) d_PR_tellCleaning_15 ⟨Nat.zero_le _, Nat.zero_le _⟩ (fun H locs hP hS => ?_)
        exact B_18 r3 _ _ _ hP hD hS (lv_sub hl [] rfl) hf
      · have hf := o_pos c2 hf
        exact B_10 i0 _ _ _ hP hD hS (lv_sub hl [0] rfl) hf
  exact E _ _ hP hS
set_option maxHeartbeats 4000000 in
set_option maxRecDepth 100000 in
theorem c_PR_strokes (l : Launch) (D : va_G) (cI cZ : ClassId) (a_p0 a_hall a_hall_layers a_hall_kinds a_hall_wanted a_now a_now_off a_hand a_hand_shown z_text z_trial z_acts z_slots z_seen z_hall_patiences z_now_waited : Nat) (i1 : Int32) (i2 : Int32) (v_actCount : Int32) (v_slotsKept : Int32) (v_seed : Int64) (v_hall_count : Int32) (v_hall_layers : Nat → Int32) (v_hall_kinds : Nat → Int32) (v_hall_wanted : Nat → Int32) (v_now_nights : Int32) (v_now_off : Nat → Int32) (v_hand_shown : Nat → Int32) (res : Int32 × (Nat → Int32)) (hf : f_PR_strokes i1 i2 v_hall_count v_hall_layers v_hall_kinds v_hall_wanted v_now_off v_hand_shown = some res) : CtI l y_PR_strokes b_PR_strokes 3 (some .int) 5 D cI cZ [.ref a_p0, .int i1, .int i2] (cs_PR_strokes cI cZ a_p0 a_hall a_hall_layers a_hall_kinds a_hall_wanted a_now a_now_off a_hand a_hand_shown z_text z_trial z_acts z_slots z_seen z_hall_patiences z_now_waited v_actCount v_slotsKept v_seed v_hall_count v_hall_layers v_hall_kinds v_hall_wanted v_now_nights v_now_off v_hand_shown) res.1 (cs_PR_strokes cI cZ a_p0 a_hall a_hall_layers a_hall_kinds a_hall_wanted a_now a_now_off a_hand a_hand_shown z_text z_trial z_acts z_slots z_seen z_hall_patiences z_now_waited v_actCount v_slotsKept v_seed v_hall_count v_hall_layers v_hall_kinds v_hall_wanted v_now_nights v_now_off res.2) := by
  refine CtI_mk (by decide) (Nat.le_of_ble_eq_true rfl) ?_
  intro p e s m args below meth c A Q hC hA hP hD RET ls hl
  have hC : Cx p s m args meth c b_PR_strokes 3 R_PR D cI cZ := hC
  have hl : lv_has ls 3 [(0, .ref a_p0), (1, .int i1), (2, .int i2)] := hl
  obtain ⟨hx, hb, hml, hown, hts, hlk, hKK⟩ := id hC
  have hS : va_S A s.heap s.heap [] := va_S.rf
  unfold f_PR_strokes at hf
  have E : ∀ (H : Heap) (locs : List Loc), va_P D classes (cs_PR_strokes cI cZ a_p0 a_hall a_hall_layers a_hall_kinds a_hall_wanted a_now a_now_off a_hand a_hand_shown z_text z_trial z_acts z_slots z_seen z_hall_patiences z_now_waited v_actCount v_slotsKept v_seed v_hall_count v_hall_layers v_hall_kinds v_hall_wanted v_now_nights v_now_off v_hand_shown) H → va_S A s.heap H locs → W p l e (rm_ 5 (40 * 5)) s m args below meth c H locs 0 0 Q (F0 m 0 ls []) := by
    intro H locs hP hS
    refine lv_aload_n hx hb d_PR_strokes_0 rfl (lv_at hl 0 rfl) ?_
    refine gf_PR_19 hC hP 0 rfl rfl d_PR_strokes_1 ?_
    refine lv_iload_n hx hb d_PR_strokes_4 rfl (lv_at hl 1 rfl) ?_
    obtain ⟨r1, h2, hf⟩ := o_bind hf
    refine cVi (rest := []) (wr := [(a_p0, .inr (6, [.ref z_text, .ref a_hall, .ref a_now, .ref z_trial, .ref a_hand, .ref z_acts, .ref z_slots, .ref z_seen, .int v_actCount, .int v_slotsKept, .long v_seed])), (a_hall_layers, .inl (cI, 12, .inl v_hall_layers)), (a_hall_kinds, .inl (cI, 5, .inl v_hall_kinds)), (a_hall_wanted, .inl (cI, 20, .inl v_hall_wanted)), (a_now, .inr (2, [.ref a_now_off, .ref z_now_waited, .int v_now_nights])), (a_now_off, .inl (cI, 4, .inl v_now_off)), (a_hand, .inr (1, [.ref a_hand_shown])), (a_hand_shown, .inl (cI, 4, .inl v_hand_shown))]) (wn := (cs_PR_strokes cI cZ a_p0 a_hall a_hall_layers a_hall_kinds a_hall_wanted a_now a_now_off a_hand a_hand_shown z_text z_trial z_acts z_slots z_seen z_hall_patiences z_now_waited v_actCount v_slotsKept v_seed v_hall_count v_hall_layers v_hall_kinds v_hall_wanted v_now_nights v_now_off v_hand_shown)) (c_Hall_has l D cI cZ a_hall a_hall_layers a_hall_kinds z_hall_patiences a_hall_wanted i1 v_hall_count r1 h2) hC hA hP hD hS hl.1 cw_PR_119 1 rfl rfl rfl ⟨Nat.le_of_ble_eq_true rfl, Nat.le_of_ble_eq_true rfl⟩ rfl rfl (Nat.le_of_ble_eq_true rfl) d_PR_strokes_5 ⟨Nat.zero_le _, Nat.zero_le _⟩ [1] [0, 2, 3, 4, 5, 6, 7, 8] [0, 8, 1, 2, 3, 4, 5, 6, 7] (by decide) (Cut_mk rfl rfl (by decide) (by decide) (by decide) rfl) (fun H locs hP hD hS => ?_)
    refine lv_if_ne (tgt := 13) hx hb d_PR_strokes_8 (by decide) (fun c3 => ?_) (fun c3 => ?_)
    · have hf := o_neg c3 hf
      refine lv_iload_n hx hb d_PR_strokes_13 rfl (lv_at hl 2 rfl) ?_
      obtain ⟨r4, h5, hf⟩ := o_bind hf
      refine cSi0 (rest := []) (c_PR_isOneOfTwo l D cI cZ i2 r4 h5) hC hA hP hD hS hl.1 cw_PR_171 ⟨Nat.le_of_ble_eq_true rfl, Nat.le_of_ble_eq_true rfl⟩ rfl rfl (Nat.le_of_ble_eq_true rfl) d_PR_strokes_14 ⟨Nat.zero_le _, Nat.zero_le _⟩ (fun H locs hP hS => ?_)
      refine lv_if_ne (tgt := 23) hx hb d_PR_strokes_17 (by decide) (fun c6 => ?_) (fun c6 => ?_)
      · have hf := o_neg c6 hf
        refine lv_aload_n hx hb d_PR_strokes_23 rfl (lv_at hl 0 rfl) ?_
        refine lv_iconst (v := 1) hx hb d_PR_strokes_24 (by decide) ?_
        refine lv_iload_n hx hb d_PR_strokes_25 rfl (lv_at hl 1 rfl) ?_
        refine lv_ishl hx hb d_PR_strokes_26 ?_
        refine lv_iconst (v := 1) hx hb d_PR_strokes_27 (by decide) ?_
        refine lv_iload_n hx hb d_PR_strokes_28 rfl (lv_at hl 1 rfl) ?_
        refine lv_ishl hx hb d_PR_strokes_29 ?_
        obtain ⟨r7, h8, hf⟩ := o_bind hf
        refine cVi (rest := []) (wr := []) (wn := (cs_PR_strokes cI cZ a_p0 a_hall a_hall_layers a_hall_kinds a_hall_wanted a_now a_now_off a_hand a_hand_shown z_text z_trial z_acts z_slots z_seen z_hall_patiences z_now_waited v_actCount v_slotsKept v_seed v_hall_count v_hall_layers v_hall_kinds v_hall_wanted v_now_nights v_now_off r7.2)) (c_PR_leastCleaning l D cI cZ a_p0 a_hall a_hall_layers a_hall_kinds a_hall_wanted a_now a_now_off a_hand a_hand_shown z_text z_trial z_acts z_slots z_seen z_hall_patiences z_now_waited (slI 1 i1) (slI 1 i1) v_actCount v_slotsKept v_seed v_hall_count v_hall_layers v_hall_kinds v_hall_wanted v_now_nights v_now_off v_hand_shown r7 h8) hC hA hP hD hS hl.1 cw_PR_180 0 rfl rfl rfl ⟨Nat.le_of_ble_eq_true rfl, Nat.le_of_ble_eq_true rfl⟩ rfl rfl (Nat.le_of_ble_eq_true rfl) d_PR_strokes_30 ⟨Nat.zero_le _, Nat.zero_le _⟩ [0, 1, 2, 3, 4, 5, 6, 7, 8] [] [0, 1, 2, 3, 4, 5, 6, 7, 8] (by decide) (Cut_mk rfl rfl (by decide) (by decide) (by decide) rfl) (fun H locs hP hD hS => ?_)
        refine lv_iload_n hx hb d_PR_strokes_33 rfl (lv_at hl 2 rfl) ?_
        obtain ⟨r9, h10, hf⟩ := o_bind hf
        refine cSi0 (rest := []) (c_PR_tellCleaning l D cI cZ r7.1 i2 r9 h10) hC hA hP hD hS hl.1 cw_PR_183 ⟨Nat.le_of_ble_eq_true rfl, Nat.le_of_ble_eq_true rfl⟩ rfl rfl (Nat.le_of_ble_eq_true rfl) d_PR_strokes_34 ⟨Nat.zero_le _, Nat.zero_le _⟩ (fun H locs hP hS => ?_)
        have hr := Option.some.inj hf
        exact RET _ _ _ _ _ _ rfl (congrArg (fun r : Int32 × (Nat → Int32) => r.1) hr) (congrArg (fun r : Int32 × (Nat → Int32) => (cs_PR_strokes cI cZ a_p0 a_hall a_hall_layers a_hall_kinds a_hall_wanted a_now a_now_off a_hand a_hand_shown z_text z_trial z_acts z_slots z_seen z_hall_patiences z_now_waited v_actCount v_slotsKept v_seed v_hall_count v_hall_layers v_hall_kinds v_hall_wanted v_now_nights v_now_off r.2)) hr) hP hD hS d_PR_strokes_37
      · have hf := o_pos c6 hf
        refine lv_bipush (v := (-2)) hx hb d_PR_strokes_20 (by decide) ?_
        have hr := Option.some.inj hf
        exact RET _ _ _ _ _ _ rfl (congrArg (fun r : Int32 × (Nat → Int32) => r.1) hr) (congrArg (fun r : Int32 × (Nat → Int32) => (cs_PR_strokes cI cZ a_p0 a_hall a_hall_layers a_hall_kinds a_hall_wanted a_now a_now_off a_hand a_hand_shown z_text z_trial z_acts z_slots z_seen z_hall_patiences z_now_waited v_actCount v_slotsKept v_seed v_hall_count v_hall_layers v_hall_kinds v_hall_wanted v_now_nights v_now_off r.2)) hr) hP hD hS d_PR_strokes_22
    · have hf := o_pos c3 hf
      refine lv_iconst (v := (-1)) hx hb d_PR_strokes_11 (by decide) ?_
      have hr := Option.some.inj hf
      exact RET _ _ _ _ _ _ rfl (congrArg (fun r : Int32 × (Nat → Int32) => r.1) hr) (congrArg (fun r : Int32 × (Nat → Int32) => (cs_PR_strokes cI cZ a_p0 a_hall a_hall_layers a_hall_kinds a_hall_wanted a_now a_now_off a_hand a_hand_shown z_text z_trial z_acts z_slots z_seen z_hall_patiences z_now_waited v_actCount v_slotsKept v_seed v_hall_count v_hall_layers v_hall_kinds v_hall_wanted v_now_nights v_now_off r.2)) hr) hP hD hS d_PR_strokes_12
  exact E _ _ hP hS
set_option maxHeartbeats 4000000 in
set_option maxRecDepth 100000 in
theorem c_PR_peace (l : Launch) (D : va_G) (cI cZ : ClassId) (a_p0 a_hall a_hall_layers a_hall_kinds a_hall_wanted a_now a_now_off a_hand a_hand_shown z_text z_trial z_acts z_slots z_seen z_hall_patiences z_now_waited : Nat) (i1 : Int32) (v_actCount : Int32) (v_slotsKept : Int32) (v_seed : Int64) (v_hall_count : Int32) (v_hall_layers : Nat → Int32) (v_hall_kinds : Nat → Int32) (v_hall_wanted : Nat → Int32) (v_now_nights : Int32) (v_now_off : Nat → Int32) (v_hand_shown : Nat → Int32) (res : Int32 × (Nat → Int32)) (hf : f_PR_peace i1 v_hall_count v_hall_layers v_hall_kinds v_hall_wanted v_now_off v_hand_shown = some res) : CtI l y_PR_peace b_PR_peace 2 (some .int) 5 D cI cZ [.ref a_p0, .int i1] (cs_PR_peace cI cZ a_p0 a_hall a_hall_layers a_hall_kinds a_hall_wanted a_now a_now_off a_hand a_hand_shown z_text z_trial z_acts z_slots z_seen z_hall_patiences z_now_waited v_actCount v_slotsKept v_seed v_hall_count v_hall_layers v_hall_kinds v_hall_wanted v_now_nights v_now_off v_hand_shown) res.1 (cs_PR_peace cI cZ a_p0 a_hall a_hall_layers a_hall_kinds a_hall_wanted a_now a_now_off a_hand a_hand_shown z_text z_trial z_acts z_slots z_seen z_hall_patiences z_now_waited v_actCount v_slotsKept v_seed v_hall_count v_hall_layers v_hall_kinds v_hall_wanted v_now_nights v_now_off res.2) := by
  refine CtI_mk (by decide) (Nat.le_of_ble_eq_true rfl) ?_
  intro p e s m args below meth c A Q hC hA hP hD RET ls hl
  have hC : Cx p s m args meth c b_PR_peace 2 R_PR D cI cZ := hC
  have hl : lv_has ls 2 [(0, .ref a_p0), (1, .int i1)] := hl
  obtain ⟨hx, hb, hml, hown, hts, hlk, hKK⟩ := id hC
  have hS : va_S A s.heap s.heap [] := va_S.rf
  unfold f_PR_peace at hf
  have E : ∀ (H : Heap) (locs : List Loc), va_P D classes (cs_PR_peace cI cZ a_p0 a_hall a_hall_layers a_hall_kinds a_hall_wanted a_now a_now_off a_hand a_hand_shown z_text z_trial z_acts z_slots z_seen z_hall_patiences z_now_waited v_actCount v_slotsKept v_seed v_hall_count v_hall_layers v_hall_kinds v_hall_wanted v_now_nights v_now_off v_hand_shown) H → va_S A s.heap H locs → W p l e (rm_ 5 (40 * 5)) s m args below meth c H locs 0 0 Q (F0 m 0 ls []) := by
    intro H locs hP hS
    refine lv_iload_n hx hb d_PR_peace_0 rfl (lv_at hl 1 rfl) ?_
    obtain ⟨r1, h2, hf⟩ := o_bind hf
    refine cSi0 (rest := []) (c_PR_isOneOfTwo l D cI cZ i1 r1 h2) hC hA hP hD hS hl.1 cw_PR_171 ⟨Nat.le_of_ble_eq_true rfl, Nat.le_of_ble_eq_true rfl⟩ rfl rfl (Nat.le_of_ble_eq_true rfl) d_PR_peace_1 ⟨Nat.zero_le _, Nat.zero_le _⟩ (fun H locs hP hS => ?_)
    refine lv_if_ne (tgt := 10) hx hb d_PR_peace_4 (by decide) (fun c3 => ?_) (fun c3 => ?_)
    · have hf := o_neg c3 hf
      refine lv_aload_n hx hb d_PR_peace_10 rfl (lv_at hl 0 rfl) ?_
      refine lv_bipush (v := 31) hx hb d_PR_peace_11 (by decide) ?_
      refine lv_iconst (v := 0) hx hb d_PR_peace_13 (by decide) ?_
      obtain ⟨r4, h5, hf⟩ := o_bind hf
      refine cVi (rest := []) (wr := []) (wn := (cs_PR_peace cI cZ a_p0 a_hall a_hall_layers a_hall_kinds a_hall_wanted a_now a_now_off a_hand a_hand_shown z_text z_trial z_acts z_slots z_seen z_hall_patiences z_now_waited v_actCount v_slotsKept v_seed v_hall_count v_hall_layers v_hall_kinds v_hall_wanted v_now_nights v_now_off r4.2)) (c_PR_leastCleaning l D cI cZ a_p0 a_hall a_hall_layers a_hall_kinds a_hall_wanted a_now a_now_off a_hand a_hand_shown z_text z_trial z_acts z_slots z_seen z_hall_patiences z_now_waited 31 0 v_actCount v_slotsKept v_seed v_hall_count v_hall_layers v_hall_kinds v_hall_wanted v_now_nights v_now_off v_hand_shown r4 h5) hC hA hP hD hS hl.1 cw_PR_180 0 rfl rfl rfl ⟨Nat.le_of_ble_eq_true rfl, Nat.le_of_ble_eq_true rfl⟩ rfl rfl (Nat.le_of_ble_eq_true rfl) d_PR_peace_14 ⟨Nat.zero_le _, Nat.zero_le _⟩ [0, 1, 2, 3, 4, 5, 6, 7, 8] [] [0, 1, 2, 3, 4, 5, 6, 7, 8] (by decide) (Cut_mk rfl rfl (by decide) (by decide) (by decide) rfl) (fun H locs hP hD hS => ?_)
      refine lv_iload_n hx hb d_PR_peace_17 rfl (lv_at hl 1 rfl) ?_
      obtain ⟨r6, h7, hf⟩ := o_bind hf
      refine cSi0 (rest := []) (c_PR_tellCleaning l D cI cZ r4.1 i1 r6 h7) hC hA hP hD hS hl.1 cw_PR_183 ⟨Nat.le_of_ble_eq_true rfl, Nat.le_of_ble_eq_true rfl⟩ rfl rfl (Nat.le_of_ble_eq_true rfl) d_PR_peace_18 ⟨Nat.zero_le _, Nat.zero_le _⟩ (fun H locs hP hS => ?_)
      have hr := Option.some.inj hf
      exact RET _ _ _ _ _ _ rfl (congrArg (fun r : Int32 × (Nat → Int32) => r.1) hr) (congrArg (fun r : Int32 × (Nat → Int32) => (cs_PR_peace cI cZ a_p0 a_hall a_hall_layers a_hall_kinds a_hall_wanted a_now a_now_off a_hand a_hand_shown z_text z_trial z_acts z_slots z_seen z_hall_patiences z_now_waited v_actCount v_slotsKept v_seed v_hall_count v_hall_layers v_hall_kinds v_hall_wanted v_now_nights v_now_off r.2)) hr) hP hD hS d_PR_peace_21
    · have hf := o_pos c3 hf
      refine lv_bipush (v := (-2)) hx hb d_PR_peace_7 (by decide) ?_
      have hr := Option.some.inj hf
      exact RET _ _ _ _ _ _ rfl (congrArg (fun r : Int32 × (Nat → Int32) => r.1) hr) (congrArg (fun r : Int32 × (Nat → Int32) => (cs_PR_peace cI cZ a_p0 a_hall a_hall_layers a_hall_kinds a_hall_wanted a_now a_now_off a_hand a_hand_shown z_text z_trial z_acts z_slots z_seen z_hall_patiences z_now_waited v_actCount v_slotsKept v_seed v_hall_count v_hall_layers v_hall_kinds v_hall_wanted v_now_nights v_now_off r.2)) hr) hP hD hS d_PR_peace_9
  exact E _ _ hP hS
set_option maxHeartbeats 4000000 in
set_option maxRecDepth 100000 in
theorem c_PR_givesUp (l : Launch) (D : va_G) (cI cZ : ClassId) (a_p0 a_hall a_hall_layers a_hall_kinds a_hall_patiences a_hall_wanted a_now a_now_off a_now_waited a_trial a_trial_off a_trial_waited a_hand a_hand_shown z_text z_acts z_slots z_seen : Nat) (i1 : Int32) (v_actCount : Int32) (v_slotsKept : Int32) (v_seed : Int64) (v_hall_count : Int32) (v_hall_layers : Nat → Int32) (v_hall_kinds : Nat → Int32) (v_hall_patiences : Nat → Int32) (v_hall_wanted : Nat → Int32) (v_now_nights : Int32) (v_now_off : Nat → Int32) (v_now_waited : Nat → Int32) (v_trial_nights : Int32) (v_trial_off : Nat → Int32) (v_trial_waited : Nat → Int32) (v_hand_shown : Nat → Int32) (res : Int32 × Int32 × (Nat → Int32) × (Nat → Int32) × (Nat → Int32)) (hf : f_PR_givesUp i1 v_hall_count v_hall_layers v_hall_kinds v_hall_patiences v_hall_wanted v_now_nights v_now_off v_now_waited v_trial_nights v_trial_off v_trial_waited v_hand_shown = some res) : CtI l y_PR_givesUp b_PR_givesUp 3 (some .int) 5 D cI cZ [.ref a_p0, .int i1] (cs_PR_givesUp cI cZ a_p0 a_hall a_hall_layers a_hall_kinds a_hall_patiences a_hall_wanted a_now a_now_off a_now_waited a_trial a_trial_off a_trial_waited a_hand a_hand_shown z_text z_acts z_slots z_seen v_actCount v_slotsKept v_seed v_hall_count v_hall_layers v_hall_kinds v_hall_patiences v_hall_wanted v_now_nights v_now_off v_now_waited v_trial_nights v_trial_off v_trial_waited v_hand_shown) res.1 (cs_PR_givesUp cI cZ a_p0 a_hall a_hall_layers a_hall_kinds a_hall_patiences a_hall_wanted a_now a_now_off a_now_waited a_trial a_trial_off a_trial_waited a_hand a_hand_shown z_text z_acts z_slots z_seen v_actCount v_slotsKept v_seed v_hall_count v_hall_layers v_hall_kinds v_hall_patiences v_hall_wanted v_now_nights v_now_off v_now_waited res.2.1 res.2.2.1 res.2.2.2.1 res.2.2.2.2) := by
  refine CtI_mk (by decide) (Nat.le_of_ble_eq_true rfl) ?_
  intro p e s m args below meth c A Q hC hA hP hD RET ls hl
  have hC : Cx p s m args meth c b_PR_givesUp 3 R_PR D cI cZ := hC
  have hl : lv_has ls 3 [(0, .ref a_p0), (1, .int i1)] := hl
  obtain ⟨hx, hb, hml, hown, hts, hlk, hKK⟩ := id hC
  have hS : va_S A s.heap s.heap [] := va_S.rf
  have B_42 : ∀  (n : Nat) (x1 : Int32) (x2 : Int32) (v_trial_nights : Int32) (v_trial_off : Nat → Int32) (v_trial_waited : Nat → Int32) (v_hand_shown : Nat → Int32) (H : Heap) (locs : List Loc) (ls : Array Slot), va_P D classes (cs_PR_givesUp cI cZ a_p0 a_hall a_hall_layers a_hall_kinds a_hall_patiences a_hall_wanted a_now a_now_off a_now_waited a_trial a_trial_off a_trial_waited a_hand a_hand_shown z_text z_acts z_slots z_seen v_actCount v_slotsKept v_seed v_hall_count v_hall_layers v_hall_kinds v_hall_patiences v_hall_wanted v_now_nights v_now_off v_now_waited v_trial_nights v_trial_off v_trial_waited v_hand_shown) H → va_D A (cs_PR_givesUp cI cZ a_p0 a_hall a_hall_layers a_hall_kinds a_hall_patiences a_hall_wanted a_now a_now_off a_now_waited a_trial a_trial_off a_trial_waited a_hand a_hand_shown z_text z_acts z_slots z_seen v_actCount v_slotsKept v_seed v_hall_count v_hall_layers v_hall_kinds v_hall_patiences v_hall_wanted v_now_nights v_now_off v_now_waited v_trial_nights v_trial_off v_trial_waited v_hand_shown) → va_S A s.heap H locs → lv_has ls 3 [(0, .ref a_p0), (1, .int x1), (2, .int x2)] → f_PR_givesUp_42  v_hall_count v_hall_layers v_hall_kinds v_hall_patiences v_hall_wanted v_now_nights v_now_off v_now_waited n x1 x2 v_trial_nights v_trial_off v_trial_waited v_hand_shown = some res → W p l e (rm_ 5 (40 * 5)) s m args below meth c H locs 0 0 Q (F0 m 42 ls []) := by
    intro  n
    induction n with
    | zero => intro x1 x2 v_trial_nights v_trial_off v_trial_waited v_hand_shown H locs ls hP hD hS hl hf; exact nomatch hf
    | succ n ih =>
      intro x1 x2 v_trial_nights v_trial_off v_trial_waited v_hand_shown H locs ls hP hD hS hl hf
      have hf : f_PR_givesUp_42_b  (f_PR_givesUp_42  v_hall_count v_hall_layers v_hall_kinds v_hall_patiences v_hall_wanted v_now_nights v_now_off v_now_waited n) v_hall_count v_hall_layers v_hall_kinds v_hall_patiences v_hall_wanted v_now_nights v_now_off v_now_waited x1 x2 v_trial_nights v_trial_off v_trial_waited v_hand_shown = some res := hf
      generalize f_PR_givesUp_42  v_hall_count v_hall_layers v_hall_kinds v_hall_patiences v_hall_wanted v_now_nights v_now_off v_now_waited n = back_42 at ih hf
      have K_42 := ih
      unfold f_PR_givesUp_42_b at hf
      refine lv_iload_n hx hb d_PR_givesUp_42 rfl (lv_at hl 2 rfl) ?_
      refine lv_bipush (v := 20) hx hb d_PR_givesUp_43 (by decide) ?_
      refine lv_icmp_gt (tgt := 77) hx hb d_PR_givesUp_45 (by decide) (fun c1 => ?_) (fun c1 => ?_)
      · have hf := o_pos c1 hf
        refine lv_bipush (v := (-9)) hx hb d_PR_givesUp_77 (by decide) ?_
        have hr := Option.some.inj hf
        exact RET _ _ _ _ _ _ rfl (congrArg (fun r : Int32 × Int32 × (Nat → Int32) × (Nat → Int32) × (Nat → Int32) => r.1) hr) (congrArg (fun r : Int32 × Int32 × (Nat → Int32) × (Nat → Int32) × (Nat → Int32) => (cs_PR_givesUp cI cZ a_p0 a_hall a_hall_layers a_hall_kinds a_hall_patiences a_hall_wanted a_now a_now_off a_now_waited a_trial a_trial_off a_trial_waited a_hand a_hand_shown z_text z_acts z_slots z_seen v_actCount v_slotsKept v_seed v_hall_count v_hall_layers v_hall_kinds v_hall_patiences v_hall_wanted v_now_nights v_now_off v_now_waited r.2.1 r.2.2.1 r.2.2.2.1 r.2.2.2.2)) hr) hP hD hS d_PR_givesUp_79
      · have hf := o_neg c1 hf
        refine lv_aload_n hx hb d_PR_givesUp_48 rfl (lv_at hl 0 rfl) ?_
        refine lv_aload_n hx hb d_PR_givesUp_49 rfl (lv_at hl 0 rfl) ?_
        refine gf_PR_30 hC hP 0 rfl rfl d_PR_givesUp_50 ?_
        obtain ⟨r2, h3, hf⟩ := o_bind hf
        refine cVv (rest := []) (wr := [(a_now, .inr (2, [.ref a_now_off, .ref a_now_waited, .int v_now_nights])), (a_now_off, .inl (cI, 4, .inl v_now_off)), (a_now_waited, .inl (cI, 5, .inl v_now_waited))]) (wn := (cs_PR_givesUp cI cZ a_p0 a_hall a_hall_layers a_hall_kinds a_hall_patiences a_hall_wanted a_now a_now_off a_now_waited a_trial a_trial_off a_trial_waited a_hand a_hand_shown z_text z_acts z_slots z_seen v_actCount v_slotsKept v_seed v_hall_count v_hall_layers v_hall_kinds v_hall_patiences v_hall_wanted v_now_nights v_now_off v_now_waited r2.2.1 v_trial_off r2.2.2 r2.1)) (c_PR_pass l D cI cZ a_p0 a_hall a_hall_layers a_hall_kinds a_hall_patiences a_hall_wanted a_hand a_hand_shown a_trial a_trial_off a_trial_waited z_text a_now a_trial z_acts z_slots z_seen v_actCount v_slotsKept v_seed v_hall_count v_hall_layers v_hall_kinds v_hall_patiences v_hall_wanted v_hand_shown v_trial_nights v_trial_off v_trial_waited r2 h3) hC hA hP hD hS hl.1 cw_PR_137 0 rfl rfl rfl ⟨Nat.le_of_ble_eq_true rfl, Nat.le_of_ble_eq_true rfl⟩ rfl rfl (Nat.le_of_ble_eq_true rfl) d_PR_givesUp_53 ⟨Nat.zero_le _, Nat.zero_le _⟩ [0, 1, 2, 3, 4, 5, 12, 13, 9, 10, 11] [6, 7, 8] [3, 4, 5, 6, 7, 8, 0, 1, 2, 11, 12, 13, 9, 10] (by decide) (Cut_mk rfl rfl (by decide) (by decide) (by decide) rfl) (fun H locs hP hD hS => ?_)
        refine lv_aload_n hx hb d_PR_givesUp_56 rfl (lv_at hl 0 rfl) ?_
        refine gf_PR_30 hC hP 0 rfl rfl d_PR_givesUp_57 ?_
        refine lv_iload_n hx hb d_PR_givesUp_60 rfl (lv_at hl 1 rfl) ?_
        obtain ⟨r4, h5, hf⟩ := o_bind hf
        refine cVi (rest := []) (wr := [(a_p0, .inr (6, [.ref z_text, .ref a_hall, .ref a_now, .ref a_trial, .ref a_hand, .ref z_acts, .ref z_slots, .ref z_seen, .int v_actCount, .int v_slotsKept, .long v_seed])), (a_hall, .inr (0, [.ref a_hall_layers, .ref a_hall_kinds, .ref a_hall_patiences, .ref a_hall_wanted, .int v_hall_count])), (a_hall_layers, .inl (cI, 12, .inl v_hall_layers)), (a_hall_kinds, .inl (cI, 5, .inl v_hall_kinds)), (a_hall_patiences, .inl (cI, 5, .inl v_hall_patiences)), (a_hall_wanted, .inl (cI, 20, .inl v_hall_wanted)), (a_now, .inr (2, [.ref a_now_off, .ref a_now_waited, .int v_now_nights])), (a_now_off, .inl (cI, 4, .inl v_now_off)), (a_now_waited, .inl (cI, 5, .inl v_now_waited)), (a_trial_off, .inl (cI, 4, .inl v_trial_off)), (a_hand, .inr (1, [.ref a_hand_shown])), (a_hand_shown, .inl (cI, 4, .inl r2.1))]) (wn := (cs_PR_givesUp cI cZ a_p0 a_hall a_hall_layers a_hall_kinds a_hall_patiences a_hall_wanted a_now a_now_off a_now_waited a_trial a_trial_off a_trial_waited a_hand a_hand_shown z_text z_acts z_slots z_seen v_actCount v_slotsKept v_seed v_hall_count v_hall_layers v_hall_kinds v_hall_patiences v_hall_wanted v_now_nights v_now_off v_now_waited r2.2.1 v_trial_off r2.2.2 r2.1)) (c_Scene_waited l D cI cZ a_trial a_trial_waited a_trial_off x1 r2.2.1 r2.2.2 r4 h5) hC hA hP hD hS hl.1 cw_PR_131 9 rfl rfl rfl ⟨Nat.le_of_ble_eq_true rfl, Nat.le_of_ble_eq_true rfl⟩ rfl rfl (Nat.le_of_ble_eq_true rfl) d_PR_givesUp_61 ⟨Nat.zero_le _, Nat.zero_le _⟩ [9, 11] [0, 1, 2, 3, 4, 5, 6, 7, 8, 10, 12, 13] [0, 1, 2, 3, 4, 5, 6, 7, 8, 12, 9, 13, 10, 11] (by decide) (Cut_mk rfl rfl (by decide) (by decide) (by decide) rfl) (fun H locs hP hD hS => ?_)
        refine lv_bipush (v := (-9)) hx hb d_PR_givesUp_64 (by decide) ?_
        refine lv_icmp_ne (tgt := 71) hx hb d_PR_givesUp_66 (by decide) (fun c6 => ?_) (fun c6 => ?_)
        · have hf := o_neg c6 hf
          refine lv_iinc (v := x2 + 1) (lv' := [(2, .int (x2 + 1)), (0, .ref a_p0), (1, .int x1)]) hx hb d_PR_givesUp_71 hl (k := 2) rfl (rfl) (by decide) rfl (fun ls hl => ?_)
          refine lv_goto (tgt := 42) hx hb d_PR_givesUp_74 (by decide) ?_
          exact K_42 x1 (x2 + 1) r2.2.1 v_trial_off r2.2.2 r2.1 _ _ _ hP hD hS (lv_sub hl [1, 2, 0] rfl) hf
        · have hf := o_pos c6 hf
          refine lv_iload_n hx hb d_PR_givesUp_69 rfl (lv_at hl 2 rfl) ?_
          have hr := Option.some.inj hf
          exact RET _ _ _ _ _ _ rfl (congrArg (fun r : Int32 × Int32 × (Nat → Int32) × (Nat → Int32) × (Nat → Int32) => r.1) hr) (congrArg (fun r : Int32 × Int32 × (Nat → Int32) × (Nat → Int32) × (Nat → Int32) => (cs_PR_givesUp cI cZ a_p0 a_hall a_hall_layers a_hall_kinds a_hall_patiences a_hall_wanted a_now a_now_off a_now_waited a_trial a_trial_off a_trial_waited a_hand a_hand_shown z_text z_acts z_slots z_seen v_actCount v_slotsKept v_seed v_hall_count v_hall_layers v_hall_kinds v_hall_patiences v_hall_wanted v_now_nights v_now_off v_now_waited r.2.1 r.2.2.1 r.2.2.2.1 r.2.2.2.2)) hr) hP hD hS d_PR_givesUp_70
  unfold f_PR_givesUp at hf
  have E : ∀ (H : Heap) (locs : List Loc), va_P D classes (cs_PR_givesUp cI cZ a_p0 a_hall a_hall_layers a_hall_kinds a_hall_patiences a_hall_wanted a_now a_now_off a_now_waited a_trial a_trial_off a_trial_waited a_hand a_hand_shown z_text z_acts z_slots z_seen v_actCount v_slotsKept v_seed v_hall_count v_hall_layers v_hall_kinds v_hall_patiences v_hall_wanted v_now_nights v_now_off v_now_waited v_trial_nights v_trial_off v_trial_waited v_hand_shown) H → va_S A s.heap H locs → W p l e (rm_ 5 (40 * 5)) s m args below meth c H locs 0 0 Q (F0 m 0 ls []) := by
    intro H locs hP hS
    refine lv_aload_n hx hb d_PR_givesUp_0 rfl (lv_at hl 0 rfl) ?_
    refine gf_PR_19 hC hP 0 rfl rfl d_PR_givesUp_1 ?_
    refine lv_iload_n hx hb d_PR_givesUp_4 rfl (lv_at hl 1 rfl) ?_
    obtain ⟨r1, h2, hf⟩ := o_bind hf
    refine cVi (rest := []) (wr := [(a_p0, .inr (6, [.ref z_text, .ref a_hall, .ref a_now, .ref a_trial, .ref a_hand, .ref z_acts, .ref z_slots, .ref z_seen, .int v_actCount, .int v_slotsKept, .long v_seed])), (a_hall_layers, .inl (cI, 12, .inl v_hall_layers)), (a_hall_kinds, .inl (cI, 5, .inl v_hall_kinds)), (a_hall_patiences, .inl (cI, 5, .inl v_hall_patiences)), (a_hall_wanted, .inl (cI, 20, .inl v_hall_wanted)), (a_now, .inr (2, [.ref a_now_off, .ref a_now_waited, .int v_now_nights])), (a_now_off, .inl (cI, 4, .inl v_now_off)), (a_now_waited, .inl (cI, 5, .inl v_now_waited)), (a_trial, .inr (2, [.ref a_trial_off, .ref a_trial_waited, .int v_trial_nights])), (a_trial_off, .inl (cI, 4, .inl v_trial_off)), (a_trial_waited, .inl (cI, 5, .inl v_trial_waited)), (a_hand, .inr (1, [.ref a_hand_shown])), (a_hand_shown, .inl (cI, 4, .inl v_hand_shown))]) (wn := (cs_PR_givesUp cI cZ a_p0 a_hall a_hall_layers a_hall_kinds a_hall_patiences a_hall_wanted a_now a_now_off a_now_waited a_trial a_trial_off a_trial_waited a_hand a_hand_shown z_text z_acts z_slots z_seen v_actCount v_slotsKept v_seed v_hall_count v_hall_layers v_hall_kinds v_hall_patiences v_hall_wanted v_now_nights v_now_off v_now_waited v_trial_nights v_trial_off v_trial_waited v_hand_shown)) (c_Hall_has l D cI cZ a_hall a_hall_layers a_hall_kinds a_hall_patiences a_hall_wanted i1 v_hall_count r1 h2) hC hA hP hD hS hl.1 cw_PR_119 1 rfl rfl rfl ⟨Nat.le_of_ble_eq_true rfl, Nat.le_of_ble_eq_true rfl⟩ rfl rfl (Nat.le_of_ble_eq_true rfl) d_PR_givesUp_5 ⟨Nat.zero_le _, Nat.zero_le _⟩ [1] [0, 2, 3, 4, 5, 6, 7, 8, 9, 10, 11, 12, 13] [0, 13, 1, 2, 3, 4, 5, 6, 7, 8, 9, 10, 11, 12] (by decide) (Cut_mk rfl rfl (by decide) (by decide) (by decide) rfl) (fun H locs hP hD hS => ?_)
    refine lv_if_ne (tgt := 13) hx hb d_PR_givesUp_8 (by decide) (fun c3 => ?_) (fun c3 => ?_)
    · have hf := o_neg c3 hf
      refine lv_aload_n hx hb d_PR_givesUp_13 rfl (lv_at hl 0 rfl) ?_
      refine gf_PR_26 hC hP 0 rfl rfl d_PR_givesUp_14 ?_
      refine lv_iload_n hx hb d_PR_givesUp_17 rfl (lv_at hl 1 rfl) ?_
      obtain ⟨r4, h5, hf⟩ := o_bind hf
      refine cVi (rest := []) (wr := [(a_p0, .inr (6, [.ref z_text, .ref a_hall, .ref a_now, .ref a_trial, .ref a_hand, .ref z_acts, .ref z_slots, .ref z_seen, .int v_actCount, .int v_slotsKept, .long v_seed])), (a_hall, .inr (0, [.ref a_hall_layers, .ref a_hall_kinds, .ref a_hall_patiences, .ref a_hall_wanted, .int v_hall_count])), (a_hall_layers, .inl (cI, 12, .inl v_hall_layers)), (a_hall_kinds, .inl (cI, 5, .inl v_hall_kinds)), (a_hall_patiences, .inl (cI, 5, .inl v_hall_patiences)), (a_hall_wanted, .inl (cI, 20, .inl v_hall_wanted)), (a_now_off, .inl (cI, 4, .inl v_now_off)), (a_trial, .inr (2, [.ref a_trial_off, .ref a_trial_waited, .int v_trial_nights])), (a_trial_off, .inl (cI, 4, .inl v_trial_off)), (a_trial_waited, .inl (cI, 5, .inl v_trial_waited)), (a_hand, .inr (1, [.ref a_hand_shown])), (a_hand_shown, .inl (cI, 4, .inl v_hand_shown))]) (wn := (cs_PR_givesUp cI cZ a_p0 a_hall a_hall_layers a_hall_kinds a_hall_patiences a_hall_wanted a_now a_now_off a_now_waited a_trial a_trial_off a_trial_waited a_hand a_hand_shown z_text z_acts z_slots z_seen v_actCount v_slotsKept v_seed v_hall_count v_hall_layers v_hall_kinds v_hall_patiences v_hall_wanted v_now_nights v_now_off v_now_waited v_trial_nights v_trial_off v_trial_waited v_hand_shown)) (c_Scene_waited l D cI cZ a_now a_now_waited a_now_off i1 v_now_nights v_now_waited r4 h5) hC hA hP hD hS hl.1 cw_PR_131 6 rfl rfl rfl ⟨Nat.le_of_ble_eq_true rfl, Nat.le_of_ble_eq_true rfl⟩ rfl rfl (Nat.le_of_ble_eq_true rfl) d_PR_givesUp_18 ⟨Nat.zero_le _, Nat.zero_le _⟩ [6, 8] [0, 1, 2, 3, 4, 5, 7, 9, 10, 11, 12, 13] [0, 1, 2, 3, 4, 5, 12, 6, 13, 7, 8, 9, 10, 11] (by decide) (Cut_mk rfl rfl (by decide) (by decide) (by decide) rfl) (fun H locs hP hD hS => ?_)
      refine lv_bipush (v := (-9)) hx hb d_PR_givesUp_21 (by decide) ?_
      refine lv_icmp_ne (tgt := 29) hx hb d_PR_givesUp_23 (by decide) (fun c6 => ?_) (fun c6 => ?_)
      · have hf := o_neg c6 hf
        refine lv_aload_n hx hb d_PR_givesUp_29 rfl (lv_at hl 0 rfl) ?_
        refine gf_PR_30 hC hP 0 rfl rfl d_PR_givesUp_30 ?_
        refine lv_aload_n hx hb d_PR_givesUp_33 rfl (lv_at hl 0 rfl) ?_
        refine gf_PR_26 hC hP 0 rfl rfl d_PR_givesUp_34 ?_
        obtain ⟨r7, h8, hf⟩ := o_bind hf
        refine cVv (rest := []) (wr := [(a_p0, .inr (6, [.ref z_text, .ref a_hall, .ref a_now, .ref a_trial, .ref a_hand, .ref z_acts, .ref z_slots, .ref z_seen, .int v_actCount, .int v_slotsKept, .long v_seed])), (a_hall, .inr (0, [.ref a_hall_layers, .ref a_hall_kinds, .ref a_hall_patiences, .ref a_hall_wanted, .int v_hall_count])), (a_hall_layers, .inl (cI, 12, .inl v_hall_layers)), (a_hall_kinds, .inl (cI, 5, .inl v_hall_kinds)), (a_hall_patiences, .inl (cI, 5, .inl v_hall_patiences)), (a_hall_wanted, .inl (cI, 20, .inl v_hall_wanted)), (a_hand, .inr (1, [.ref a_hand_shown])), (a_hand_shown, .inl (cI, 4, .inl v_hand_shown))]) (wn := (cs_PR_givesUp cI cZ a_p0 a_hall a_hall_layers a_hall_kinds a_hall_patiences a_hall_wanted a_now a_now_off a_now_waited a_trial a_trial_off a_trial_waited a_hand a_hand_shown z_text z_acts z_slots z_seen v_actCount v_slotsKept v_seed v_hall_count v_hall_layers v_hall_kinds v_hall_patiences v_hall_wanted v_now_nights v_now_off v_now_waited r7.1 r7.2.1 r7.2.2 v_hand_shown)) (c_Scene_copy l D cI cZ a_trial a_trial_off a_trial_waited a_now a_now_off a_now_waited v_trial_nights v_trial_off v_trial_waited v_now_nights v_now_off v_now_waited r7 h8) hC hA hP hD hS hl.1 cw_PR_186 9 rfl rfl rfl ⟨Nat.le_of_ble_eq_true rfl, Nat.le_of_ble_eq_true rfl⟩ rfl rfl (Nat.le_of_ble_eq_true rfl) d_PR_givesUp_37 ⟨Nat.zero_le _, Nat.zero_le _⟩ [9, 10, 11, 6, 7, 8] [0, 1, 2, 3, 4, 5, 12, 13] [0, 1, 2, 3, 4, 5, 11, 12, 13, 8, 9, 10, 6, 7] (by decide) (Cut_mk rfl rfl (by decide) (by decide) (by decide) rfl) (fun H locs hP hD hS => ?_)
        refine lv_iconst (v := 1) hx hb d_PR_givesUp_40 (by decide) ?_
        refine lv_istore_n (lv' := [(2, .int 1), (0, .ref a_p0), (1, .int i1)]) hx hb d_PR_givesUp_41 rfl hl (by decide) rfl (fun ls hl => ?_)
        exact B_42 300 i1 1 r7.1 r7.2.1 r7.2.2 v_hand_shown _ _ _ hP hD hS (lv_sub hl [1, 2, 0] rfl) hf
      · have hf := o_pos c6 hf
        refine lv_bipush (v := (-3)) hx hb d_PR_givesUp_26 (by decide) ?_
        have hr := Option.some.inj hf
        exact RET _ _ _ _ _ _ rfl (congrArg (fun r : Int32 × Int32 × (Nat → Int32) × (Nat → Int32) × (Nat → Int32) => r.1) hr) (congrArg (fun r : Int32 × Int32 × (Nat → Int32) × (Nat → Int32) × (Nat → Int32) => (cs_PR_givesUp cI cZ a_p0 a_hall a_hall_layers a_hall_kinds a_hall_patiences a_hall_wanted a_now a_now_off a_now_waited a_trial a_trial_off a_trial_waited a_hand a_hand_shown z_text z_acts z_slots z_seen v_actCount v_slotsKept v_seed v_hall_count v_hall_layers v_hall_kinds v_hall_patiences v_hall_wanted v_now_nights v_now_off v_now_waited r.2.1 r.2.2.1 r.2.2.2.1 r.2.2.2.2)) hr) hP hD hS d_PR_givesUp_28
    · have hf := o_pos c3 hf
      refine lv_iconst (v := (-1)) hx hb d_PR_givesUp_11 (by decide) ?_
      have hr := Option.some.inj hf
      exact RET _ _ _ _ _ _ rfl (congrArg (fun r : Int32 × Int32 × (Nat → Int32) × (Nat → Int32) × (Nat → Int32) => r.1) hr) (congrArg (fun r : Int32 × Int32 × (Nat → Int32) × (Nat → Int32) × (Nat → Int32) => (cs_PR_givesUp cI cZ a_p0 a_hall a_hall_layers a_hall_kinds a_hall_patiences a_hall_wanted a_now a_now_off a_now_waited a_trial a_trial_off a_trial_waited a_hand a_hand_shown z_text z_acts z_slots z_seen v_actCount v_slotsKept v_seed v_hall_count v_hall_layers v_hall_kinds v_hall_patiences v_hall_wanted v_now_nights v_now_off v_now_waited r.2.1 r.2.2.1 r.2.2.2.1 r.2.2.2.2)) hr) hP hD hS d_PR_givesUp_12
  exact E _ _ hP hS
set_option maxHeartbeats 4000000 in
set_option maxRecDepth 100000 in
theorem c_PR_longest (l : Launch) (D : va_G) (cI cZ : ClassId) (a_p0 a_hall a_hall_layers a_hall_kinds a_hall_patiences a_hall_wanted a_now a_now_off a_now_waited a_trial a_trial_off a_trial_waited a_hand a_hand_shown z_text z_acts z_slots z_seen : Nat) (i1 : Int32) (v_actCount : Int32) (v_slotsKept : Int32) (v_seed : Int64) (v_hall_count : Int32) (v_hall_layers : Nat → Int32) (v_hall_kinds : Nat → Int32) (v_hall_patiences : Nat → Int32) (v_hall_wanted : Nat → Int32) (v_now_nights : Int32) (v_now_off : Nat → Int32) (v_now_waited : Nat → Int32) (v_trial_nights : Int32) (v_trial_off : Nat → Int32) (v_trial_waited : Nat → Int32) (v_hand_shown : Nat → Int32) (res : Int32 × Int32 × (Nat → Int32) × (Nat → Int32) × (Nat → Int32)) (hf : f_PR_longest i1 v_hall_count v_hall_layers v_hall_kinds v_hall_patiences v_hall_wanted v_now_nights v_now_off v_now_waited v_trial_nights v_trial_off v_trial_waited v_hand_shown = some res) : CtI l y_PR_longest b_PR_longest 4 (some .int) 5 D cI cZ [.ref a_p0, .int i1] (cs_PR_longest cI cZ a_p0 a_hall a_hall_layers a_hall_kinds a_hall_patiences a_hall_wanted a_now a_now_off a_now_waited a_trial a_trial_off a_trial_waited a_hand a_hand_shown z_text z_acts z_slots z_seen v_actCount v_slotsKept v_seed v_hall_count v_hall_layers v_hall_kinds v_hall_patiences v_hall_wanted v_now_nights v_now_off v_now_waited v_trial_nights v_trial_off v_trial_waited v_hand_shown) res.1 (cs_PR_longest cI cZ a_p0 a_hall a_hall_layers a_hall_kinds a_hall_patiences a_hall_wanted a_now a_now_off a_now_waited a_trial a_trial_off a_trial_waited a_hand a_hand_shown z_text z_acts z_slots z_seen v_actCount v_slotsKept v_seed v_hall_count v_hall_layers v_hall_kinds v_hall_patiences v_hall_wanted v_now_nights v_now_off v_now_waited res.2.1 res.2.2.1 res.2.2.2.1 res.2.2.2.2) := by
  refine CtI_mk (by decide) (Nat.le_of_ble_eq_true rfl) ?_
  intro p e s m args below meth c A Q hC hA hP hD RET ls hl
  have hC : Cx p s m args meth c b_PR_longest 4 R_PR D cI cZ := hC
  have hl : lv_has ls 4 [(0, .ref a_p0), (1, .int i1)] := hl
  obtain ⟨hx, hb, hml, hown, hts, hlk, hKK⟩ := id hC
  have hS : va_S A s.heap s.heap [] := va_S.rf
  have B_10 : ∀  (v_trial_nights : Int32) (v_trial_off : Nat → Int32) (v_trial_waited : Nat → Int32) (v_hand_shown : Nat → Int32) (H : Heap) (locs : List Loc) (ls : Array Slot), va_P D classes (cs_PR_longest cI cZ a_p0 a_hall a_hall_layers a_hall_kinds a_hall_patiences a_hall_wanted a_now a_now_off a_now_waited a_trial a_trial_off a_trial_waited a_hand a_hand_shown z_text z_acts z_slots z_seen v_actCount v_slotsKept v_seed v_hall_count v_hall_layers v_hall_kinds v_hall_patiences v_hall_wanted v_now_nights v_now_off v_now_waited v_trial_nights v_trial_off v_trial_waited v_hand_shown) H → va_D A (cs_PR_longest cI cZ a_p0 a_hall a_hall_layers a_hall_kinds a_hall_patiences a_hall_wanted a_now a_now_off a_now_waited a_trial a_trial_off a_trial_waited a_hand a_hand_shown z_text z_acts z_slots z_seen v_actCount v_slotsKept v_seed v_hall_count v_hall_layers v_hall_kinds v_hall_patiences v_hall_wanted v_now_nights v_now_off v_now_waited v_trial_nights v_trial_off v_trial_waited v_hand_shown) → va_S A s.heap H locs → lv_has ls 4 [] → f_PR_longest_10  v_hall_count v_hall_layers v_hall_kinds v_hall_patiences v_hall_wanted v_now_nights v_now_off v_now_waited v_trial_nights v_trial_off v_trial_waited v_hand_shown = some res → W p l e (rm_ 5 (40 * 5)) s m args below meth c H locs 0 0 Q (F0 m 10 ls []) := by
    intro  v_trial_nights v_trial_off v_trial_waited v_hand_shown H locs ls hP hD hS hl hf
    unfold f_PR_longest_10 at hf
    refine lv_bipush (v := (-2)) hx hb d_PR_longest_10 (by decide) ?_
    have hr := Option.some.inj hf
    exact RET _ _ _ _ _ _ rfl (congrArg (fun r : Int32 × Int32 × (Nat → Int32) × (Nat → Int32) × (Nat → Int32) => r.1) hr) (congrArg (fun r : Int32 × Int32 × (Nat → Int32) × (Nat → Int32) × (Nat → Int32) => (cs_PR_longest cI cZ a_p0 a_hall a_hall_layers a_hall_kinds a_hall_patiences a_hall_wanted a_now a_now_off a_now_waited a_trial a_trial_off a_trial_waited a_hand a_hand_shown z_text z_acts z_slots z_seen v_actCount v_slotsKept v_seed v_hall_count v_hall_layers v_hall_kinds v_hall_patiences v_hall_wanted v_now_nights v_now_off v_now_waited r.2.1 r.2.2.1 r.2.2.2.1 r.2.2.2.2)) hr) hP hD hS d_PR_longest_12
  have B_37 : ∀  (n : Nat) (x1 : Int32) (x2 : Int32) (x3 : Int32) (v_trial_nights : Int32) (v_trial_off : Nat → Int32) (v_trial_waited : Nat → Int32) (v_hand_shown : Nat → Int32) (H : Heap) (locs : List Loc) (ls : Array Slot), va_P D classes (cs_PR_longest cI cZ a_p0 a_hall a_hall_layers a_hall_kinds a_hall_patiences a_hall_wanted a_now a_now_off a_now_waited a_trial a_trial_off a_trial_waited a_hand a_hand_shown z_text z_acts z_slots z_seen v_actCount v_slotsKept v_seed v_hall_count v_hall_layers v_hall_kinds v_hall_patiences v_hall_wanted v_now_nights v_now_off v_now_waited v_trial_nights v_trial_off v_trial_waited v_hand_shown) H → va_D A (cs_PR_longest cI cZ a_p0 a_hall a_hall_layers a_hall_kinds a_hall_patiences a_hall_wanted a_now a_now_off a_now_waited a_trial a_trial_off a_trial_waited a_hand a_hand_shown z_text z_acts z_slots z_seen v_actCount v_slotsKept v_seed v_hall_count v_hall_layers v_hall_kinds v_hall_patiences v_hall_wanted v_now_nights v_now_off v_now_waited v_trial_nights v_trial_off v_trial_waited v_hand_shown) → va_S A s.heap H locs → lv_has ls 4 [(0, .ref a_p0), (1, .int x1), (2, .int x2), (3, .int x3)] → f_PR_longest_37  v_hall_count v_hall_layers v_hall_kinds v_hall_patiences v_hall_wanted v_now_nights v_now_off v_now_waited n x1 x2 x3 v_trial_nights v_trial_off v_trial_waited v_hand_shown = some res → W p l e (rm_ 5 (40 * 5)) s m args below meth c H locs 0 0 Q (F0 m 37 ls []) := by
    intro  n
    induction n with
    | zero => intro x1 x2 x3 v_trial_nights v_trial_off v_trial_waited v_hand_shown H locs ls hP hD hS hl hf; exact nomatch hf
    | succ n ih =>
      intro x1 x2 x3 v_trial_nights v_trial_off v_trial_waited v_hand_shown H locs ls hP hD hS hl hf
      have hf : f_PR_longest_37_b  (f_PR_longest_37  v_hall_count v_hall_layers v_hall_kinds v_hall_patiences v_hall_wanted v_now_nights v_now_off v_now_waited n) v_hall_count v_hall_layers v_hall_kinds v_hall_patiences v_hall_wanted v_now_nights v_now_off v_now_waited x1 x2 x3 v_trial_nights v_trial_off v_trial_waited v_hand_shown = some res := hf
      generalize f_PR_longest_37  v_hall_count v_hall_layers v_hall_kinds v_hall_patiences v_hall_wanted v_now_nights v_now_off v_now_waited n = back_37 at ih hf
      have K_37 := ih
      unfold f_PR_longest_37_b at hf
      refine lv_iload_n hx hb d_PR_longest_37 rfl (lv_at hl 3 rfl) ?_
      refine lv_iload_n hx hb d_PR_longest_38 rfl (lv_at hl 1 rfl) ?_
      refine lv_icmp_gt (tgt := 71) hx hb d_PR_longest_39 (by decide) (fun c1 => ?_) (fun c1 => ?_)
      · have hf := o_pos c1 hf
        refine lv_iload_n hx hb d_PR_longest_71 rfl (lv_at hl 2 rfl) ?_
        have hr := Option.some.inj hf
        exact RET _ _ _ _ _ _ rfl (congrArg (fun r : Int32 × Int32 × (Nat → Int32) × (Nat → Int32) × (Nat → Int32) => r.1) hr) (congrArg (fun r : Int32 × Int32 × (Nat → Int32) × (Nat → Int32) × (Nat → Int32) => (cs_PR_longest cI cZ a_p0 a_hall a_hall_layers a_hall_kinds a_hall_patiences a_hall_wanted a_now a_now_off a_now_waited a_trial a_trial_off a_trial_waited a_hand a_hand_shown z_text z_acts z_slots z_seen v_actCount v_slotsKept v_seed v_hall_count v_hall_layers v_hall_kinds v_hall_patiences v_hall_wanted v_now_nights v_now_off v_now_waited r.2.1 r.2.2.1 r.2.2.2.1 r.2.2.2.2)) hr) hP hD hS d_PR_longest_72
      · have hf := o_neg c1 hf
        refine lv_aload_n hx hb d_PR_longest_42 rfl (lv_at hl 0 rfl) ?_
        refine lv_aload_n hx hb d_PR_longest_43 rfl (lv_at hl 0 rfl) ?_
        refine gf_PR_30 hC hP 0 rfl rfl d_PR_longest_44 ?_
        obtain ⟨r2, h3, hf⟩ := o_bind hf
        refine cVv (rest := []) (wr := [(a_now, .inr (2, [.ref a_now_off, .ref a_now_waited, .int v_now_nights])), (a_now_off, .inl (cI, 4, .inl v_now_off)), (a_now_waited, .inl (cI, 5, .inl v_now_waited))]) (wn := (cs_PR_longest cI cZ a_p0 a_hall a_hall_layers a_hall_kinds a_hall_patiences a_hall_wanted a_now a_now_off a_now_waited a_trial a_trial_off a_trial_waited a_hand a_hand_shown z_text z_acts z_slots z_seen v_actCount v_slotsKept v_seed v_hall_count v_hall_layers v_hall_kinds v_hall_patiences v_hall_wanted v_now_nights v_now_off v_now_waited r2.2.1 v_trial_off r2.2.2 r2.1)) (c_PR_pass l D cI cZ a_p0 a_hall a_hall_layers a_hall_kinds a_hall_patiences a_hall_wanted a_hand a_hand_shown a_trial a_trial_off a_trial_waited z_text a_now a_trial z_acts z_slots z_seen v_actCount v_slotsKept v_seed v_hall_count v_hall_layers v_hall_kinds v_hall_patiences v_hall_wanted v_hand_shown v_trial_nights v_trial_off v_trial_waited r2 h3) hC hA hP hD hS hl.1 cw_PR_137 0 rfl rfl rfl ⟨Nat.le_of_ble_eq_true rfl, Nat.le_of_ble_eq_true rfl⟩ rfl rfl (Nat.le_of_ble_eq_true rfl) d_PR_longest_47 ⟨Nat.zero_le _, Nat.zero_le _⟩ [0, 1, 2, 3, 4, 5, 12, 13, 9, 10, 11] [6, 7, 8] [3, 4, 5, 6, 7, 8, 0, 1, 2, 11, 12, 13, 9, 10] (by decide) (Cut_mk rfl rfl (by decide) (by decide) (by decide) rfl) (fun H locs hP hD hS => ?_)
        refine lv_iload_n hx hb d_PR_longest_50 rfl (lv_at hl 2 rfl) ?_
        refine lv_aload_n hx hb d_PR_longest_51 rfl (lv_at hl 0 rfl) ?_
        refine gf_PR_30 hC hP 0 rfl rfl d_PR_longest_52 ?_
        obtain ⟨r4, h5, hf⟩ := o_bind hf
        refine cVi (rest := [.int x2]) (wr := [(a_p0, .inr (6, [.ref z_text, .ref a_hall, .ref a_now, .ref a_trial, .ref a_hand, .ref z_acts, .ref z_slots, .ref z_seen, .int v_actCount, .int v_slotsKept, .long v_seed])), (a_hall, .inr (0, [.ref a_hall_layers, .ref a_hall_kinds, .ref a_hall_patiences, .ref a_hall_wanted, .int v_hall_count])), (a_hall_layers, .inl (cI, 12, .inl v_hall_layers)), (a_hall_kinds, .inl (cI, 5, .inl v_hall_kinds)), (a_hall_patiences, .inl (cI, 5, .inl v_hall_patiences)), (a_hall_wanted, .inl (cI, 20, .inl v_hall_wanted)), (a_now, .inr (2, [.ref a_now_off, .ref a_now_waited, .int v_now_nights])), (a_now_off, .inl (cI, 4, .inl v_now_off)), (a_now_waited, .inl (cI, 5, .inl v_now_waited)), (a_trial_off, .inl (cI, 4, .inl v_trial_off)), (a_hand, .inr (1, [.ref a_hand_shown])), (a_hand_shown, .inl (cI, 4, .inl r2.1))]) (wn := (cs_PR_longest cI cZ a_p0 a_hall a_hall_layers a_hall_kinds a_hall_patiences a_hall_wanted a_now a_now_off a_now_waited a_trial a_trial_off a_trial_waited a_hand a_hand_shown z_text z_acts z_slots z_seen v_actCount v_slotsKept v_seed v_hall_count v_hall_layers v_hall_kinds v_hall_patiences v_hall_wanted v_now_nights v_now_off v_now_waited r2.2.1 v_trial_off r2.2.2 r2.1)) (c_Scene_waiting l D cI cZ a_trial a_trial_waited a_trial_off r2.2.1 r2.2.2 r4 h5) hC hA hP hD hS hl.1 cw_PR_91 9 rfl rfl rfl ⟨Nat.le_of_ble_eq_true rfl, Nat.le_of_ble_eq_true rfl⟩ rfl rfl (Nat.le_of_ble_eq_true rfl) d_PR_longest_55 ⟨Nat.zero_le _, Nat.zero_le _⟩ [9, 11] [0, 1, 2, 3, 4, 5, 6, 7, 8, 10, 12, 13] [0, 1, 2, 3, 4, 5, 6, 7, 8, 12, 9, 13, 10, 11] (by decide) (Cut_mk rfl rfl (by decide) (by decide) (by decide) rfl) (fun H locs hP hD hS => ?_)
        obtain ⟨r6, h7, hf⟩ := o_bind hf
        refine cSi0 (rest := [.int x2]) (c_Int_bitCount l D cI cZ r4 r6 h7) hC hA hP hD hS hl.1 cw_PR_141 ⟨Nat.le_of_ble_eq_true rfl, Nat.le_of_ble_eq_true rfl⟩ rfl rfl (Nat.le_of_ble_eq_true rfl) d_PR_longest_58 ⟨Nat.zero_le _, Nat.zero_le _⟩ (fun H locs hP hS => ?_)
        refine va_mmax hx hb (hml.trans hl.1.symm) hown (hts _ g418) (hts _ g101) (hts _ g8) (hts _ g102) (Nat.le_of_ble_eq_true rfl) (Nat.le_of_ble_eq_true rfl) (Nat.zero_le _) (Nat.zero_le _) d_PR_longest_61 ?_
        refine lv_istore_n (lv' := [(2, .int (mxI x2 r6)), (0, .ref a_p0), (1, .int x1), (3, .int x3)]) hx hb d_PR_longest_64 rfl hl (by decide) rfl (fun ls hl => ?_)
        refine lv_iinc (v := x3 + 1) (lv' := [(3, .int (x3 + 1)), (2, .int (mxI x2 r6)), (0, .ref a_p0), (1, .int x1)]) hx hb d_PR_longest_65 hl (k := 3) rfl (rfl) (by decide) rfl (fun ls hl => ?_)
        refine lv_goto (tgt := 37) hx hb d_PR_longest_68 (by decide) ?_
        exact K_37 x1 (mxI x2 r6) (x3 + 1) r2.2.1 v_trial_off r2.2.2 r2.1 _ _ _ hP hD hS (lv_sub hl [2, 3, 1, 0] rfl) hf
  unfold f_PR_longest at hf
  have E : ∀ (H : Heap) (locs : List Loc), va_P D classes (cs_PR_longest cI cZ a_p0 a_hall a_hall_layers a_hall_kinds a_hall_patiences a_hall_wanted a_now a_now_off a_now_waited a_trial a_trial_off a_trial_waited a_hand a_hand_shown z_text z_acts z_slots z_seen v_actCount v_slotsKept v_seed v_hall_count v_hall_layers v_hall_kinds v_hall_patiences v_hall_wanted v_now_nights v_now_off v_now_waited v_trial_nights v_trial_off v_trial_waited v_hand_shown) H → va_S A s.heap H locs → W p l e (rm_ 5 (40 * 5)) s m args below meth c H locs 0 0 Q (F0 m 0 ls []) := by
    intro H locs hP hS
    refine lv_iload_n hx hb d_PR_longest_0 rfl (lv_at hl 1 rfl) ?_
    refine lv_if_lt (tgt := 10) hx hb d_PR_longest_1 (by decide) (fun c1 => ?_) (fun c1 => ?_)
    · have hf := o_pos c1 hf
      exact B_10 v_trial_nights v_trial_off v_trial_waited v_hand_shown _ _ _ hP hD hS (lv_sub hl [] rfl) hf
    · have hf := o_neg c1 hf
      refine lv_iload_n hx hb d_PR_longest_4 rfl (lv_at hl 1 rfl) ?_
      refine lv_bipush (v := 30) hx hb d_PR_longest_5 (by decide) ?_
      refine lv_icmp_le (tgt := 13) hx hb d_PR_longest_7 (by decide) (fun c2 => ?_) (fun c2 => ?_)
      · have hf := o_pos c2 hf
        refine lv_aload_n hx hb d_PR_longest_13 rfl (lv_at hl 0 rfl) ?_
        refine gf_PR_30 hC hP 0 rfl rfl d_PR_longest_14 ?_
        refine lv_aload_n hx hb d_PR_longest_17 rfl (lv_at hl 0 rfl) ?_
        refine gf_PR_26 hC hP 0 rfl rfl d_PR_longest_18 ?_
        obtain ⟨r3, h4, hf⟩ := o_bind hf
        refine cVv (rest := []) (wr := [(a_p0, .inr (6, [.ref z_text, .ref a_hall, .ref a_now, .ref a_trial, .ref a_hand, .ref z_acts, .ref z_slots, .ref z_seen, .int v_actCount, .int v_slotsKept, .long v_seed])), (a_hall, .inr (0, [.ref a_hall_layers, .ref a_hall_kinds, .ref a_hall_patiences, .ref a_hall_wanted, .int v_hall_count])), (a_hall_layers, .inl (cI, 12, .inl v_hall_layers)), (a_hall_kinds, .inl (cI, 5, .inl v_hall_kinds)), (a_hall_patiences, .inl (cI, 5, .inl v_hall_patiences)), (a_hall_wanted, .inl (cI, 20, .inl v_hall_wanted)), (a_hand, .inr (1, [.ref a_hand_shown])), (a_hand_shown, .inl (cI, 4, .inl v_hand_shown))]) (wn := (cs_PR_longest cI cZ a_p0 a_hall a_hall_layers a_hall_kinds a_hall_patiences a_hall_wanted a_now a_now_off a_now_waited a_trial a_trial_off a_trial_waited a_hand a_hand_shown z_text z_acts z_slots z_seen v_actCount v_slotsKept v_seed v_hall_count v_hall_layers v_hall_kinds v_hall_patiences v_hall_wanted v_now_nights v_now_off v_now_waited r3.1 r3.2.1 r3.2.2 v_hand_shown)) (c_Scene_copy l D cI cZ a_trial a_trial_off a_trial_waited a_now a_now_off a_now_waited v_trial_nights v_trial_off v_trial_waited v_now_nights v_now_off v_now_waited r3 h4) hC hA hP hD hS hl.1 cw_PR_186 9 rfl rfl rfl ⟨Nat.le_of_ble_eq_true rfl, Nat.le_of_ble_eq_true rfl⟩ rfl rfl (Nat.le_of_ble_eq_true rfl) d_PR_longest_21 ⟨Nat.zero_le _, Nat.zero_le _⟩ [9, 10, 11, 6, 7, 8] [0, 1, 2, 3, 4, 5, 12, 13] [0, 1, 2, 3, 4, 5, 11, 12, 13, 8, 9, 10, 6, 7] (by decide) (Cut_mk rfl rfl (by decide) (by decide) (by decide) rfl) (fun H locs hP hD hS => ?_)
        refine lv_aload_n hx hb d_PR_longest_24 rfl (lv_at hl 0 rfl) ?_
        refine gf_PR_30 hC hP 0 rfl rfl d_PR_longest_25 ?_
        obtain ⟨r5, h6, hf⟩ := o_bind hf
        refine cVi (rest := []) (wr := [(a_p0, .inr (6, [.ref z_text, .ref a_hall, .ref a_now, .ref a_trial, .ref a_hand, .ref z_acts, .ref z_slots, .ref z_seen, .int v_actCount, .int v_slotsKept, .long v_seed])), (a_hall, .inr (0, [.ref a_hall_layers, .ref a_hall_kinds, .ref a_hall_patiences, .ref a_hall_wanted, .int v_hall_count])), (a_hall_layers, .inl (cI, 12, .inl v_hall_layers)), (a_hall_kinds, .inl (cI, 5, .inl v_hall_kinds)), (a_hall_patiences, .inl (cI, 5, .inl v_hall_patiences)), (a_hall_wanted, .inl (cI, 20, .inl v_hall_wanted)), (a_now, .inr (2, [.ref a_now_off, .ref a_now_waited, .int v_now_nights])), (a_now_off, .inl (cI, 4, .inl v_now_off)), (a_now_waited, .inl (cI, 5, .inl v_now_waited)), (a_trial_off, .inl (cI, 4, .inl r3.2.1)), (a_hand, .inr (1, [.ref a_hand_shown])), (a_hand_shown, .inl (cI, 4, .inl v_hand_shown))]) (wn := (cs_PR_longest cI cZ a_p0 a_hall a_hall_layers a_hall_kinds a_hall_patiences a_hall_wanted a_now a_now_off a_now_waited a_trial a_trial_off a_trial_waited a_hand a_hand_shown z_text z_acts z_slots z_seen v_actCount v_slotsKept v_seed v_hall_count v_hall_layers v_hall_kinds v_hall_patiences v_hall_wanted v_now_nights v_now_off v_now_waited r3.1 r3.2.1 r3.2.2 v_hand_shown)) (c_Scene_waiting l D cI cZ a_trial a_trial_waited a_trial_off r3.1 r3.2.2 r5 h6) hC hA hP hD hS hl.1 cw_PR_91 9 rfl rfl rfl ⟨Nat.le_of_ble_eq_true rfl, Nat.le_of_ble_eq_true rfl⟩ rfl rfl (Nat.le_of_ble_eq_true rfl) d_PR_longest_28 ⟨Nat.zero_le _, Nat.zero_le _⟩ [9, 11] [0, 1, 2, 3, 4, 5, 6, 7, 8, 10, 12, 13] [0, 1, 2, 3, 4, 5, 6, 7, 8, 12, 9, 13, 10, 11] (by decide) (Cut_mk rfl rfl (by decide) (by decide) (by decide) rfl) (fun H locs hP hD hS => ?_)
        obtain ⟨r7, h8, hf⟩ := o_bind hf
        refine cSi0 (rest := []) (c_Int_bitCount l D cI cZ r5 r7 h8) hC hA hP hD hS hl.1 cw_PR_141 ⟨Nat.le_of_ble_eq_true rfl, Nat.le_of_ble_eq_true rfl⟩ rfl rfl (Nat.le_of_ble_eq_true rfl) d_PR_longest_31 ⟨Nat.zero_le _, Nat.zero_le _⟩ (fun H locs hP hS => ?_)
        refine lv_istore_n (lv' := [(2, .int r7), (0, .ref a_p0), (1, .int i1)]) hx hb d_PR_longest_34 rfl hl (by decide) rfl (fun ls hl => ?_)
        refine lv_iconst (v := 1) hx hb d_PR_longest_35 (by decide) ?_
        refine lv_istore_n (lv' := [(3, .int 1), (2, .int r7), (0, .ref a_p0), (1, .int i1)]) hx hb d_PR_longest_36 rfl hl (by decide) rfl (fun ls hl => ?_)
        exact B_37 300 i1 r7 1 r3.1 r3.2.1 r3.2.2 v_hand_shown _ _ _ hP hD hS (lv_sub hl [2, 3, 1, 0] rfl) hf
      · have hf := o_neg c2 hf
        exact B_10 v_trial_nights v_trial_off v_trial_waited v_hand_shown _ _ _ hP hD hS (lv_sub hl [] rfl) hf
  exact E _ _ hP hS
set_option maxHeartbeats 4000000 in
set_option maxRecDepth 100000 in
theorem c_PR_doingAt (l : Launch) (D : va_G) (cI cZ : ClassId) (i0 : Int32) (i1 : Int32) (i2 : Int32) (res : Int32) (hf : f_PR_doingAt i0 i1 i2 = some res) : CtI l y_PR_doingAt b_PR_doingAt 5 (some .int) 0 D cI cZ [.int i0, .int i1, .int i2] [] res [] := by
  refine CtI_mk (by decide) (Nat.le_of_ble_eq_true rfl) ?_
  intro p e s m args below meth c A Q hC hA hP hD RET ls hl
  have hC : Cx p s m args meth c b_PR_doingAt 5 R_PR D cI cZ := hC
  have hl : lv_has ls 5 [(0, .int i0), (1, .int i1), (2, .int i2)] := hl
  obtain ⟨hx, hb, hml, hown, hts, hlk, hKK⟩ := id hC
  have hS : va_S A s.heap s.heap [] := va_S.rf
  have B_7 : ∀  (n : Nat) (x0 : Int32) (x3 : Int32) (x4 : Int32) (H : Heap) (locs : List Loc) (ls : Array Slot), va_P D classes [] H → va_D A [] → va_S A s.heap H locs → lv_has ls 5 [(0, .int x0), (3, .int x3), (4, .int x4)] → f_PR_doingAt_7   n x0 x3 x4 = some res → W p l e (rm_ 0 (40 * 0)) s m args below meth c H locs 0 0 Q (F0 m 7 ls []) := by
    intro  n
    induction n with
    | zero => intro x0 x3 x4 H locs ls hP hD hS hl hf; exact nomatch hf
    | succ n ih =>
      intro x0 x3 x4 H locs ls hP hD hS hl hf
      have hf : f_PR_doingAt_7_b  (f_PR_doingAt_7   n)  x0 x3 x4 = some res := hf
      generalize f_PR_doingAt_7   n = back_7 at ih hf
      have K_7 := ih
      unfold f_PR_doingAt_7_b at hf
      refine lv_iload hx hb d_PR_doingAt_7 (lv_at hl 2 rfl) ?_
      refine lv_iload_n hx hb d_PR_doingAt_9 rfl (lv_at hl 0 rfl) ?_
      refine lv_icmp_ge (tgt := 24) hx hb d_PR_doingAt_10 (by decide) (fun c1 => ?_) (fun c1 => ?_)
      · have hf := o_pos c1 hf
        refine lv_iload_n hx hb d_PR_doingAt_24 rfl (lv_at hl 1 rfl) ?_
        have hr := Option.some.inj hf
        exact RET _ _ _ _ _ _ rfl (congrArg (fun r : Int32 => r) hr) rfl hP hD hS d_PR_doingAt_25
      · have hf := o_neg c1 hf
        refine lv_iload_n hx hb d_PR_doingAt_13 rfl (lv_at hl 1 rfl) ?_
        refine lv_bipush (v := 100) hx hb d_PR_doingAt_14 (by decide) ?_
        refine lv_idiv hx hb d_PR_doingAt_16 (by decide) ?_
        refine lv_istore_n (lv' := [(3, .int (x3 / 100)), (0, .int x0), (4, .int x4)]) hx hb d_PR_doingAt_17 rfl hl (by decide) rfl (fun ls hl => ?_)
        refine lv_iinc (v := x4 + 1) (lv' := [(4, .int (x4 + 1)), (3, .int (x3 / 100)), (0, .int x0)]) hx hb d_PR_doingAt_18 hl (k := 2) rfl (rfl) (by decide) rfl (fun ls hl => ?_)
        refine lv_goto (tgt := 7) hx hb d_PR_doingAt_21 (by decide) ?_
        exact K_7 x0 (x3 / 100) (x4 + 1) _ _ _ hP hD hS (lv_sub hl [2, 1, 0] rfl) hf
  unfold f_PR_doingAt at hf
  have E : ∀ (H : Heap) (locs : List Loc), va_P D classes [] H → va_S A s.heap H locs → W p l e (rm_ 0 (40 * 0)) s m args below meth c H locs 0 0 Q (F0 m 0 ls []) := by
    intro H locs hP hS
    refine lv_iload_n hx hb d_PR_doingAt_0 rfl (lv_at hl 1 rfl) ?_
    refine lv_istore_n (lv' := [(3, .int i1), (0, .int i0), (1, .int i1), (2, .int i2)]) hx hb d_PR_doingAt_1 rfl hl (by decide) rfl (fun ls hl => ?_)
    refine lv_iload_n hx hb d_PR_doingAt_2 rfl (lv_at hl 3 rfl) ?_
    refine lv_iconst (v := 1) hx hb d_PR_doingAt_3 (by decide) ?_
    refine lv_iadd hx hb d_PR_doingAt_4 ?_
    refine lv_istore (lv' := [(4, .int (i2 + 1)), (3, .int i1), (0, .int i0), (1, .int i1), (2, .int i2)]) hx hb d_PR_doingAt_5 hl (by decide) rfl (fun ls hl => ?_)
    exact B_7 300 i0 i1 (i2 + 1) _ _ _ hP hD hS (lv_sub hl [2, 1, 0] rfl) hf
  exact E _ _ hP hS
set_option maxHeartbeats 4000000 in
set_option maxRecDepth 100000 in
theorem c_PR_attempt (l : Launch) (D : va_G) (cI cZ : ClassId) (a_p0 a_hall a_hall_layers a_hall_kinds a_hall_patiences a_hall_wanted a_hand a_hand_shown a_p1 a_p1_off a_p1_waited z_text z_now z_trial z_acts z_slots z_seen : Nat) (i2 : Int32) (i3 : Int32) (v_actCount : Int32) (v_slotsKept : Int32) (v_seed : Int64) (v_hall_count : Int32) (v_hall_layers : Nat → Int32) (v_hall_kinds : Nat → Int32) (v_hall_patiences : Nat → Int32) (v_hall_wanted : Nat → Int32) (v_hand_shown : Nat → Int32) (v_p1_nights : Int32) (v_p1_off : Nat → Int32) (v_p1_waited : Nat → Int32) (res : Int32 × (Nat → Int32) × Int32 × (Nat → Int32) × (Nat → Int32)) (hf : f_PR_attempt i2 i3 v_hall_count v_hall_layers v_hall_kinds v_hall_patiences v_hall_wanted v_hand_shown v_p1_nights v_p1_off v_p1_waited = some res) : CtI l y_PR_attempt b_PR_attempt 4 (some .boolean) 5 D cI cZ [.ref a_p0, .ref a_p1, .int i2, .int i3] (cs_PR_attempt cI cZ a_p0 a_hall a_hall_layers a_hall_kinds a_hall_patiences a_hall_wanted a_hand a_hand_shown a_p1 a_p1_off a_p1_waited z_text z_now z_trial z_acts z_slots z_seen v_actCount v_slotsKept v_seed v_hall_count v_hall_layers v_hall_kinds v_hall_patiences v_hall_wanted v_hand_shown v_p1_nights v_p1_off v_p1_waited) res.1 (cs_PR_attempt cI cZ a_p0 a_hall a_hall_layers a_hall_kinds a_hall_patiences a_hall_wanted a_hand a_hand_shown a_p1 a_p1_off a_p1_waited z_text z_now z_trial z_acts z_slots z_seen v_actCount v_slotsKept v_seed v_hall_count v_hall_layers v_hall_kinds v_hall_patiences v_hall_wanted res.2.1 res.2.2.1 res.2.2.2.1 res.2.2.2.2) := by
  refine CtI_mk (by decide) (Nat.le_of_ble_eq_true rfl) ?_
  intro p e s m args below meth c A Q hC hA hP hD RET ls hl
  have hC : Cx p s m args meth c b_PR_attempt 4 R_PR D cI cZ := hC
  have hl : lv_has ls 4 [(0, .ref a_p0), (1, .ref a_p1), (2, .int i2), (3, .int i3)] := hl
  obtain ⟨hx, hb, hml, hown, hts, hlk, hKK⟩ := id hC
  have hS : va_S A s.heap s.heap [] := va_S.rf
  have B_50 : ∀  (w0 : Int32) (v_hand_shown : Nat → Int32) (v_p1_nights : Int32) (v_p1_off : Nat → Int32) (v_p1_waited : Nat → Int32) (H : Heap) (locs : List Loc) (ls : Array Slot), va_P D classes (cs_PR_attempt cI cZ a_p0 a_hall a_hall_layers a_hall_kinds a_hall_patiences a_hall_wanted a_hand a_hand_shown a_p1 a_p1_off a_p1_waited z_text z_now z_trial z_acts z_slots z_seen v_actCount v_slotsKept v_seed v_hall_count v_hall_layers v_hall_kinds v_hall_patiences v_hall_wanted v_hand_shown v_p1_nights v_p1_off v_p1_waited) H → va_D A (cs_PR_attempt cI cZ a_p0 a_hall a_hall_layers a_hall_kinds a_hall_patiences a_hall_wanted a_hand a_hand_shown a_p1 a_p1_off a_p1_waited z_text z_now z_trial z_acts z_slots z_seen v_actCount v_slotsKept v_seed v_hall_count v_hall_layers v_hall_kinds v_hall_patiences v_hall_wanted v_hand_shown v_p1_nights v_p1_off v_p1_waited) → va_S A s.heap H locs → lv_has ls 4 [] → f_PR_attempt_50  v_hall_count v_hall_layers v_hall_kinds v_hall_patiences v_hall_wanted w0 v_hand_shown v_p1_nights v_p1_off v_p1_waited = some res → W p l e (rm_ 5 (40 * 5)) s m args below meth c H locs 0 0 Q (F0 m 50 ls [.int w0]) := by
    intro  w0 v_hand_shown v_p1_nights v_p1_off v_p1_waited H locs ls hP hD hS hl hf
    unfold f_PR_attempt_50 at hf
    obtain ⟨h1, hf⟩ := o_ite hf
    have hr := Option.some.inj hf
    exact RET _ _ _ _ _ _ (narB h1) (congrArg (fun r : Int32 × (Nat → Int32) × Int32 × (Nat → Int32) × (Nat → Int32) => r.1) hr) (congrArg (fun r : Int32 × (Nat → Int32) × Int32 × (Nat → Int32) × (Nat → Int32) => (cs_PR_attempt cI cZ a_p0 a_hall a_hall_layers a_hall_kinds a_hall_patiences a_hall_wanted a_hand a_hand_shown a_p1 a_p1_off a_p1_waited z_text z_now z_trial z_acts z_slots z_seen v_actCount v_slotsKept v_seed v_hall_count v_hall_layers v_hall_kinds v_hall_patiences v_hall_wanted r.2.1 r.2.2.1 r.2.2.2.1 r.2.2.2.2)) hr) hP hD hS d_PR_attempt_50
  have B_41 : ∀  (x3 : Int32) (v_hand_shown : Nat → Int32) (v_p1_nights : Int32) (v_p1_off : Nat → Int32) (v_p1_waited : Nat → Int32) (H : Heap) (locs : List Loc) (ls : Array Slot), va_P D classes (cs_PR_attempt cI cZ a_p0 a_hall a_hall_layers a_hall_kinds a_hall_patiences a_hall_wanted a_hand a_hand_shown a_p1 a_p1_off a_p1_waited z_text z_now z_trial z_acts z_slots z_seen v_actCount v_slotsKept v_seed v_hall_count v_hall_layers v_hall_kinds v_hall_patiences v_hall_wanted v_hand_shown v_p1_nights v_p1_off v_p1_waited) H → va_D A (cs_PR_attempt cI cZ a_p0 a_hall a_hall_layers a_hall_kinds a_hall_patiences a_hall_wanted a_hand a_hand_shown a_p1 a_p1_off a_p1_waited z_text z_now z_trial z_acts z_slots z_seen v_actCount v_slotsKept v_seed v_hall_count v_hall_layers v_hall_kinds v_hall_patiences v_hall_wanted v_hand_shown v_p1_nights v_p1_off v_p1_waited) → va_S A s.heap H locs → lv_has ls 4 [(3, .int x3)] → f_PR_attempt_41  v_hall_count v_hall_layers v_hall_kinds v_hall_patiences v_hall_wanted x3 v_hand_shown v_p1_nights v_p1_off v_p1_waited = some res → W p l e (rm_ 5 (40 * 5)) s m args below meth c H locs 0 0 Q (F0 m 41 ls []) := by
    intro  x3 v_hand_shown v_p1_nights v_p1_off v_p1_waited H locs ls hP hD hS hl hf
    unfold f_PR_attempt_41 at hf
    refine lv_iload_n hx hb d_PR_attempt_41 rfl (lv_at hl 0 rfl) ?_
    refine lv_if_ne (tgt := 49) hx hb d_PR_attempt_42 (by decide) (fun c1 => ?_) (fun c1 => ?_)
    · have hf := o_neg c1 hf
      refine lv_iconst (v := 0) hx hb d_PR_attempt_49 (by decide) ?_
      exact B_50 0 v_hand_shown v_p1_nights v_p1_off v_p1_waited _ _ _ hP hD hS (lv_sub hl [] rfl) hf
    · have hf := o_pos c1 hf
      refine lv_iconst (v := 1) hx hb d_PR_attempt_45 (by decide) ?_
      refine lv_goto (tgt := 50) hx hb d_PR_attempt_46 (by decide) ?_
      exact B_50 1 v_hand_shown v_p1_nights v_p1_off v_p1_waited _ _ _ hP hD hS (lv_sub hl [] rfl) hf
  have B_71 : ∀  (w0 : Int32) (v_hand_shown : Nat → Int32) (v_p1_nights : Int32) (v_p1_off : Nat → Int32) (v_p1_waited : Nat → Int32) (H : Heap) (locs : List Loc) (ls : Array Slot), va_P D classes (cs_PR_attempt cI cZ a_p0 a_hall a_hall_layers a_hall_kinds a_hall_patiences a_hall_wanted a_hand a_hand_shown a_p1 a_p1_off a_p1_waited z_text z_now z_trial z_acts z_slots z_seen v_actCount v_slotsKept v_seed v_hall_count v_hall_layers v_hall_kinds v_hall_patiences v_hall_wanted v_hand_shown v_p1_nights v_p1_off v_p1_waited) H → va_D A (cs_PR_attempt cI cZ a_p0 a_hall a_hall_layers a_hall_kinds a_hall_patiences a_hall_wanted a_hand a_hand_shown a_p1 a_p1_off a_p1_waited z_text z_now z_trial z_acts z_slots z_seen v_actCount v_slotsKept v_seed v_hall_count v_hall_layers v_hall_kinds v_hall_patiences v_hall_wanted v_hand_shown v_p1_nights v_p1_off v_p1_waited) → va_S A s.heap H locs → lv_has ls 4 [] → f_PR_attempt_71  v_hall_count v_hall_layers v_hall_kinds v_hall_patiences v_hall_wanted w0 v_hand_shown v_p1_nights v_p1_off v_p1_waited = some res → W p l e (rm_ 5 (40 * 5)) s m args below meth c H locs 0 0 Q (F0 m 71 ls [.int w0]) := by
    intro  w0 v_hand_shown v_p1_nights v_p1_off v_p1_waited H locs ls hP hD hS hl hf
    unfold f_PR_attempt_71 at hf
    obtain ⟨h1, hf⟩ := o_ite hf
    have hr := Option.some.inj hf
    exact RET _ _ _ _ _ _ (narB h1) (congrArg (fun r : Int32 × (Nat → Int32) × Int32 × (Nat → Int32) × (Nat → Int32) => r.1) hr) (congrArg (fun r : Int32 × (Nat → Int32) × Int32 × (Nat → Int32) × (Nat → Int32) => (cs_PR_attempt cI cZ a_p0 a_hall a_hall_layers a_hall_kinds a_hall_patiences a_hall_wanted a_hand a_hand_shown a_p1 a_p1_off a_p1_waited z_text z_now z_trial z_acts z_slots z_seen v_actCount v_slotsKept v_seed v_hall_count v_hall_layers v_hall_kinds v_hall_patiences v_hall_wanted r.2.1 r.2.2.1 r.2.2.2.1 r.2.2.2.2)) hr) hP hD hS d_PR_attempt_71
  have B_70 : ∀  (v_hand_shown : Nat → Int32) (v_p1_nights : Int32) (v_p1_off : Nat → Int32) (v_p1_waited : Nat → Int32) (H : Heap) (locs : List Loc) (ls : Array Slot), va_P D classes (cs_PR_attempt cI cZ a_p0 a_hall a_hall_layers a_hall_kinds a_hall_patiences a_hall_wanted a_hand a_hand_shown a_p1 a_p1_off a_p1_waited z_text z_now z_trial z_acts z_slots z_seen v_actCount v_slotsKept v_seed v_hall_count v_hall_layers v_hall_kinds v_hall_patiences v_hall_wanted v_hand_shown v_p1_nights v_p1_off v_p1_waited) H → va_D A (cs_PR_attempt cI cZ a_p0 a_hall a_hall_layers a_hall_kinds a_hall_patiences a_hall_wanted a_hand a_hand_shown a_p1 a_p1_off a_p1_waited z_text z_now z_trial z_acts z_slots z_seen v_actCount v_slotsKept v_seed v_hall_count v_hall_layers v_hall_kinds v_hall_patiences v_hall_wanted v_hand_shown v_p1_nights v_p1_off v_p1_waited) → va_S A s.heap H locs → lv_has ls 4 [] → f_PR_attempt_70  v_hall_count v_hall_layers v_hall_kinds v_hall_patiences v_hall_wanted v_hand_shown v_p1_nights v_p1_off v_p1_waited = some res → W p l e (rm_ 5 (40 * 5)) s m args below meth c H locs 0 0 Q (F0 m 70 ls []) := by
    intro  v_hand_shown v_p1_nights v_p1_off v_p1_waited H locs ls hP hD hS hl hf
    unfold f_PR_attempt_70 at hf
    refine lv_iconst (v := 0) hx hb d_PR_attempt_70 (by decide) ?_
    exact B_71 0 v_hand_shown v_p1_nights v_p1_off v_p1_waited _ _ _ hP hD hS (lv_sub hl [] rfl) hf
  have B_92 : ∀  (w0 : Int32) (v_hand_shown : Nat → Int32) (v_p1_nights : Int32) (v_p1_off : Nat → Int32) (v_p1_waited : Nat → Int32) (H : Heap) (locs : List Loc) (ls : Array Slot), va_P D classes (cs_PR_attempt cI cZ a_p0 a_hall a_hall_layers a_hall_kinds a_hall_patiences a_hall_wanted a_hand a_hand_shown a_p1 a_p1_off a_p1_waited z_text z_now z_trial z_acts z_slots z_seen v_actCount v_slotsKept v_seed v_hall_count v_hall_layers v_hall_kinds v_hall_patiences v_hall_wanted v_hand_shown v_p1_nights v_p1_off v_p1_waited) H → va_D A (cs_PR_attempt cI cZ a_p0 a_hall a_hall_layers a_hall_kinds a_hall_patiences a_hall_wanted a_hand a_hand_shown a_p1 a_p1_off a_p1_waited z_text z_now z_trial z_acts z_slots z_seen v_actCount v_slotsKept v_seed v_hall_count v_hall_layers v_hall_kinds v_hall_patiences v_hall_wanted v_hand_shown v_p1_nights v_p1_off v_p1_waited) → va_S A s.heap H locs → lv_has ls 4 [] → f_PR_attempt_92  v_hall_count v_hall_layers v_hall_kinds v_hall_patiences v_hall_wanted w0 v_hand_shown v_p1_nights v_p1_off v_p1_waited = some res → W p l e (rm_ 5 (40 * 5)) s m args below meth c H locs 0 0 Q (F0 m 92 ls [.int w0]) := by
    intro  w0 v_hand_shown v_p1_nights v_p1_off v_p1_waited H locs ls hP hD hS hl hf
    unfold f_PR_attempt_92 at hf
    obtain ⟨h1, hf⟩ := o_ite hf
    have hr := Option.some.inj hf
    exact RET _ _ _ _ _ _ (narB h1) (congrArg (fun r : Int32 × (Nat → Int32) × Int32 × (Nat → Int32) × (Nat → Int32) => r.1) hr) (congrArg (fun r : Int32 × (Nat → Int32) × Int32 × (Nat → Int32) × (Nat → Int32) => (cs_PR_attempt cI cZ a_p0 a_hall a_hall_layers a_hall_kinds a_hall_patiences a_hall_wanted a_hand a_hand_shown a_p1 a_p1_off a_p1_waited z_text z_now z_trial z_acts z_slots z_seen v_actCount v_slotsKept v_seed v_hall_count v_hall_layers v_hall_kinds v_hall_patiences v_hall_wanted r.2.1 r.2.2.1 r.2.2.2.1 r.2.2.2.2)) hr) hP hD hS d_PR_attempt_92
  have B_91 : ∀  (v_hand_shown : Nat → Int32) (v_p1_nights : Int32) (v_p1_off : Nat → Int32) (v_p1_waited : Nat → Int32) (H : Heap) (locs : List Loc) (ls : Array Slot), va_P D classes (cs_PR_attempt cI cZ a_p0 a_hall a_hall_layers a_hall_kinds a_hall_patiences a_hall_wanted a_hand a_hand_shown a_p1 a_p1_off a_p1_waited z_text z_now z_trial z_acts z_slots z_seen v_actCount v_slotsKept v_seed v_hall_count v_hall_layers v_hall_kinds v_hall_patiences v_hall_wanted v_hand_shown v_p1_nights v_p1_off v_p1_waited) H → va_D A (cs_PR_attempt cI cZ a_p0 a_hall a_hall_layers a_hall_kinds a_hall_patiences a_hall_wanted a_hand a_hand_shown a_p1 a_p1_off a_p1_waited z_text z_now z_trial z_acts z_slots z_seen v_actCount v_slotsKept v_seed v_hall_count v_hall_layers v_hall_kinds v_hall_patiences v_hall_wanted v_hand_shown v_p1_nights v_p1_off v_p1_waited) → va_S A s.heap H locs → lv_has ls 4 [] → f_PR_attempt_91  v_hall_count v_hall_layers v_hall_kinds v_hall_patiences v_hall_wanted v_hand_shown v_p1_nights v_p1_off v_p1_waited = some res → W p l e (rm_ 5 (40 * 5)) s m args below meth c H locs 0 0 Q (F0 m 91 ls []) := by
    intro  v_hand_shown v_p1_nights v_p1_off v_p1_waited H locs ls hP hD hS hl hf
    unfold f_PR_attempt_91 at hf
    refine lv_iconst (v := 0) hx hb d_PR_attempt_91 (by decide) ?_
    exact B_92 0 v_hand_shown v_p1_nights v_p1_off v_p1_waited _ _ _ hP hD hS (lv_sub hl [] rfl) hf
  have B_113 : ∀  (w0 : Int32) (v_hand_shown : Nat → Int32) (v_p1_nights : Int32) (v_p1_off : Nat → Int32) (v_p1_waited : Nat → Int32) (H : Heap) (locs : List Loc) (ls : Array Slot), va_P D classes (cs_PR_attempt cI cZ a_p0 a_hall a_hall_layers a_hall_kinds a_hall_patiences a_hall_wanted a_hand a_hand_shown a_p1 a_p1_off a_p1_waited z_text z_now z_trial z_acts z_slots z_seen v_actCount v_slotsKept v_seed v_hall_count v_hall_layers v_hall_kinds v_hall_patiences v_hall_wanted v_hand_shown v_p1_nights v_p1_off v_p1_waited) H → va_D A (cs_PR_attempt cI cZ a_p0 a_hall a_hall_layers a_hall_kinds a_hall_patiences a_hall_wanted a_hand a_hand_shown a_p1 a_p1_off a_p1_waited z_text z_now z_trial z_acts z_slots z_seen v_actCount v_slotsKept v_seed v_hall_count v_hall_layers v_hall_kinds v_hall_patiences v_hall_wanted v_hand_shown v_p1_nights v_p1_off v_p1_waited) → va_S A s.heap H locs → lv_has ls 4 [] → f_PR_attempt_113  v_hall_count v_hall_layers v_hall_kinds v_hall_patiences v_hall_wanted w0 v_hand_shown v_p1_nights v_p1_off v_p1_waited = some res → W p l e (rm_ 5 (40 * 5)) s m args below meth c H locs 0 0 Q (F0 m 113 ls [.int w0]) := by
    intro  w0 v_hand_shown v_p1_nights v_p1_off v_p1_waited H locs ls hP hD hS hl hf
    unfold f_PR_attempt_113 at hf
    obtain ⟨h1, hf⟩ := o_ite hf
    have hr := Option.some.inj hf
    exact RET _ _ _ _ _ _ (narB h1) (congrArg (fun r : Int32 × (Nat → Int32) × Int32 × (Nat → Int32) × (Nat → Int32) => r.1) hr) (congrArg (fun r : Int32 × (Nat → Int32) × Int32 × (Nat → Int32) × (Nat → Int32) => (cs_PR_attempt cI cZ a_p0 a_hall a_hall_layers a_hall_kinds a_hall_patiences a_hall_wanted a_hand a_hand_shown a_p1 a_p1_off a_p1_waited z_text z_now z_trial z_acts z_slots z_seen v_actCount v_slotsKept v_seed v_hall_count v_hall_layers v_hall_kinds v_hall_patiences v_hall_wanted r.2.1 r.2.2.1 r.2.2.2.1 r.2.2.2.2)) hr) hP hD hS d_PR_attempt_113
  have B_112 : ∀  (v_hand_shown : Nat → Int32) (v_p1_nights : Int32) (v_p1_off : Nat → Int32) (v_p1_waited : Nat → Int32) (H : Heap) (locs : List Loc) (ls : Array Slot), va_P D classes (cs_PR_attempt cI cZ a_p0 a_hall a_hall_layers a_hall_kinds a_hall_patiences a_hall_wanted a_hand a_hand_shown a_p1 a_p1_off a_p1_waited z_text z_now z_trial z_acts z_slots z_seen v_actCount v_slotsKept v_seed v_hall_count v_hall_layers v_hall_kinds v_hall_patiences v_hall_wanted v_hand_shown v_p1_nights v_p1_off v_p1_waited) H → va_D A (cs_PR_attempt cI cZ a_p0 a_hall a_hall_layers a_hall_kinds a_hall_patiences a_hall_wanted a_hand a_hand_shown a_p1 a_p1_off a_p1_waited z_text z_now z_trial z_acts z_slots z_seen v_actCount v_slotsKept v_seed v_hall_count v_hall_layers v_hall_kinds v_hall_patiences v_hall_wanted v_hand_shown v_p1_nights v_p1_off v_p1_waited) → va_S A s.heap H locs → lv_has ls 4 [] → f_PR_attempt_112  v_hall_count v_hall_layers v_hall_kinds v_hall_patiences v_hall_wanted v_hand_shown v_p1_nights v_p1_off v_p1_waited = some res → W p l e (rm_ 5 (40 * 5)) s m args below meth c H locs 0 0 Q (F0 m 112 ls []) := by
    intro  v_hand_shown v_p1_nights v_p1_off v_p1_waited H locs ls hP hD hS hl hf
    unfold f_PR_attempt_112 at hf
    refine lv_iconst (v := 0) hx hb d_PR_attempt_112 (by decide) ?_
    exact B_113 0 v_hand_shown v_p1_nights v_p1_off v_p1_waited _ _ _ hP hD hS (lv_sub hl [] rfl) hf
  unfold f_PR_attempt at hf
  have E : ∀ (H : Heap) (locs : List Loc), va_P D classes (cs_PR_attempt cI cZ a_p0 a_hall a_hall_layers a_hall_kinds a_hall_patiences a_hall_wanted a_hand a_hand_shown a_p1 a_p1_off a_p1_waited z_text z_now z_trial z_acts z_slots z_seen v_actCount v_slotsKept v_seed v_hall_count v_hall_layers v_hall_kinds v_hall_patiences v_hall_wanted v_hand_shown v_p1_nights v_p1_off v_p1_waited) H → va_S A s.heap H locs → W p l e (rm_ 5 (40 * 5)) s m args below meth c H locs 0 0 Q (F0 m 0 ls []) := by
    intro H locs hP hS
    refine lv_iload_n hx hb d_PR_attempt_0 rfl (lv_at hl 2 rfl) ?_
    by_cases c1 : i2 = 0
    · have hf := o_pos c1 hf
      refine lv_tableIn (off := 31) (tgt := 32) hx hb d_PR_attempt_1 (by rw [c1]; decide) (by rw [c1]; decide) (by rw [c1]; rfl) (by decide) ?_
      refine lv_iload_n hx hb d_PR_attempt_32 rfl (lv_at hl 3 rfl) ?_
      refine lv_if_ne (tgt := 41) hx hb d_PR_attempt_33 (by decide) (fun c2 => ?_) (fun c2 => ?_)
      · have hf := o_neg c2 hf
        exact B_41 i3 v_hand_shown v_p1_nights v_p1_off v_p1_waited _ _ _ hP hD hS (lv_sub hl [3] rfl) hf
      · have hf := o_pos c2 hf
        refine lv_aload_n hx hb d_PR_attempt_36 rfl (lv_at hl 0 rfl) ?_
        refine lv_aload_n hx hb d_PR_attempt_37 rfl (lv_at hl 1 rfl) ?_
        obtain ⟨r3, h4, hf⟩ := o_bind hf
        refine cVv (rest := []) (wr := []) (wn := (cs_PR_attempt cI cZ a_p0 a_hall a_hall_layers a_hall_kinds a_hall_patiences a_hall_wanted a_hand a_hand_shown a_p1 a_p1_off a_p1_waited z_text z_now z_trial z_acts z_slots z_seen v_actCount v_slotsKept v_seed v_hall_count v_hall_layers v_hall_kinds v_hall_patiences v_hall_wanted r3.1 r3.2.1 v_p1_off r3.2.2)) (c_PR_pass l D cI cZ a_p0 a_hall a_hall_layers a_hall_kinds a_hall_patiences a_hall_wanted a_hand a_hand_shown a_p1 a_p1_off a_p1_waited z_text z_now z_trial z_acts z_slots z_seen v_actCount v_slotsKept v_seed v_hall_count v_hall_layers v_hall_kinds v_hall_patiences v_hall_wanted v_hand_shown v_p1_nights v_p1_off v_p1_waited r3 h4) hC hA hP hD hS hl.1 cw_PR_137 0 rfl rfl rfl ⟨Nat.le_of_ble_eq_true rfl, Nat.le_of_ble_eq_true rfl⟩ rfl rfl (Nat.le_of_ble_eq_true rfl) d_PR_attempt_38 ⟨Nat.zero_le _, Nat.zero_le _⟩ [0, 1, 2, 3, 4, 5, 6, 7, 8, 9, 10] [] [0, 1, 2, 3, 4, 5, 6, 7, 8, 9, 10] (by decide) (Cut_mk rfl rfl (by decide) (by decide) (by decide) rfl) (fun H locs hP hD hS => ?_)
        exact B_41 i3 r3.1 r3.2.1 v_p1_off r3.2.2 _ _ _ hP hD hS (lv_sub hl [3] rfl) hf
    · have hf := o_neg c1 hf
      by_cases c5 : i2 = 1
      · have hf := o_pos c5 hf
        refine lv_tableIn (off := 50) (tgt := 51) hx hb d_PR_attempt_1 (by rw [c5]; decide) (by rw [c5]; decide) (by rw [c5]; rfl) (by decide) ?_
        refine lv_iload_n hx hb d_PR_attempt_51 rfl (lv_at hl 3 rfl) ?_
        obtain ⟨r6, h7, hf⟩ := o_bind hf
        refine cSi0 (rest := []) (c_PR_isFinger l D cI cZ i3 r6 h7) hC hA hP hD hS hl.1 cw_PR_105 ⟨Nat.le_of_ble_eq_true rfl, Nat.le_of_ble_eq_true rfl⟩ rfl rfl (Nat.le_of_ble_eq_true rfl) d_PR_attempt_52 ⟨Nat.zero_le _, Nat.zero_le _⟩ (fun H locs hP hS => ?_)
        refine lv_if_eq (tgt := 70) hx hb d_PR_attempt_55 (by decide) (fun c8 => ?_) (fun c8 => ?_)
        · have hf := o_pos c8 hf
          exact B_70 v_hand_shown v_p1_nights v_p1_off v_p1_waited _ _ _ hP hD hS (lv_sub hl [] rfl) hf
        · have hf := o_neg c8 hf
          refine lv_aload_n hx hb d_PR_attempt_58 rfl (lv_at hl 1 rfl) ?_
          refine lv_iload_n hx hb d_PR_attempt_59 rfl (lv_at hl 3 rfl) ?_
          obtain ⟨r9, h10, hf⟩ := o_bind hf
          refine cVi (rest := []) (wr := [(a_p0, .inr (6, [.ref z_text, .ref a_hall, .ref z_now, .ref z_trial, .ref a_hand, .ref z_acts, .ref z_slots, .ref z_seen, .int v_actCount, .int v_slotsKept, .long v_seed])), (a_hall, .inr (0, [.ref a_hall_layers, .ref a_hall_kinds, .ref a_hall_patiences, .ref a_hall_wanted, .int v_hall_count])), (a_hall_layers, .inl (cI, 12, .inl v_hall_layers)), (a_hall_kinds, .inl (cI, 5, .inl v_hall_kinds)), (a_hall_patiences, .inl (cI, 5, .inl v_hall_patiences)), (a_hall_wanted, .inl (cI, 20, .inl v_hall_wanted)), (a_hand, .inr (1, [.ref a_hand_shown])), (a_hand_shown, .inl (cI, 4, .inl v_hand_shown)), (a_p1_waited, .inl (cI, 5, .inl v_p1_waited))]) (wn := (cs_PR_attempt cI cZ a_p0 a_hall a_hall_layers a_hall_kinds a_hall_patiences a_hall_wanted a_hand a_hand_shown a_p1 a_p1_off a_p1_waited z_text z_now z_trial z_acts z_slots z_seen v_actCount v_slotsKept v_seed v_hall_count v_hall_layers v_hall_kinds v_hall_patiences v_hall_wanted v_hand_shown v_p1_nights r9.2 v_p1_waited)) (c_Scene_takeOff l D cI cZ a_p1 a_p1_off a_p1_waited i3 v_p1_nights v_p1_off r9 h10) hC hA hP hD hS hl.1 cw_PR_149 8 rfl rfl rfl ⟨Nat.le_of_ble_eq_true rfl, Nat.le_of_ble_eq_true rfl⟩ rfl rfl (Nat.le_of_ble_eq_true rfl) d_PR_attempt_60 ⟨Nat.zero_le _, Nat.zero_le _⟩ [8, 9] [0, 1, 2, 3, 4, 5, 6, 7, 10] [0, 1, 2, 3, 4, 5, 6, 7, 9, 10, 8] (by decide) (Cut_mk rfl rfl (by decide) (by decide) (by decide) rfl) (fun H locs hP hD hS => ?_)
          refine lv_if_eq (tgt := 70) hx hb d_PR_attempt_63 (by decide) (fun c11 => ?_) (fun c11 => ?_)
          · have hf := o_pos c11 hf
            exact B_70 v_hand_shown v_p1_nights r9.2 v_p1_waited _ _ _ hP hD hS (lv_sub hl [] rfl) hf
          · have hf := o_neg c11 hf
            refine lv_iconst (v := 1) hx hb d_PR_attempt_66 (by decide) ?_
            refine lv_goto (tgt := 71) hx hb d_PR_attempt_67 (by decide) ?_
            exact B_71 1 v_hand_shown v_p1_nights r9.2 v_p1_waited _ _ _ hP hD hS (lv_sub hl [] rfl) hf
      · have hf := o_neg c5 hf
        by_cases c12 : i2 = 2
        · have hf := o_pos c12 hf
          refine lv_tableIn (off := 71) (tgt := 72) hx hb d_PR_attempt_1 (by rw [c12]; decide) (by rw [c12]; decide) (by rw [c12]; rfl) (by decide) ?_
          refine lv_iload_n hx hb d_PR_attempt_72 rfl (lv_at hl 3 rfl) ?_
          obtain ⟨r13, h14, hf⟩ := o_bind hf
          refine cSi0 (rest := []) (c_PR_isFinger l D cI cZ i3 r13 h14) hC hA hP hD hS hl.1 cw_PR_105 ⟨Nat.le_of_ble_eq_true rfl, Nat.le_of_ble_eq_true rfl⟩ rfl rfl (Nat.le_of_ble_eq_true rfl) d_PR_attempt_73 ⟨Nat.zero_le _, Nat.zero_le _⟩ (fun H locs hP hS => ?_)
          refine lv_if_eq (tgt := 91) hx hb d_PR_attempt_76 (by decide) (fun c15 => ?_) (fun c15 => ?_)
          · have hf := o_pos c15 hf
            exact B_91 v_hand_shown v_p1_nights v_p1_off v_p1_waited _ _ _ hP hD hS (lv_sub hl [] rfl) hf
          · have hf := o_neg c15 hf
            refine lv_aload_n hx hb d_PR_attempt_79 rfl (lv_at hl 1 rfl) ?_
            refine lv_iload_n hx hb d_PR_attempt_80 rfl (lv_at hl 3 rfl) ?_
            obtain ⟨r16, h17, hf⟩ := o_bind hf
            refine cVi (rest := []) (wr := [(a_p0, .inr (6, [.ref z_text, .ref a_hall, .ref z_now, .ref z_trial, .ref a_hand, .ref z_acts, .ref z_slots, .ref z_seen, .int v_actCount, .int v_slotsKept, .long v_seed])), (a_hall, .inr (0, [.ref a_hall_layers, .ref a_hall_kinds, .ref a_hall_patiences, .ref a_hall_wanted, .int v_hall_count])), (a_hall_layers, .inl (cI, 12, .inl v_hall_layers)), (a_hall_kinds, .inl (cI, 5, .inl v_hall_kinds)), (a_hall_patiences, .inl (cI, 5, .inl v_hall_patiences)), (a_hall_wanted, .inl (cI, 20, .inl v_hall_wanted)), (a_hand, .inr (1, [.ref a_hand_shown])), (a_hand_shown, .inl (cI, 4, .inl v_hand_shown)), (a_p1_waited, .inl (cI, 5, .inl v_p1_waited))]) (wn := (cs_PR_attempt cI cZ a_p0 a_hall a_hall_layers a_hall_kinds a_hall_patiences a_hall_wanted a_hand a_hand_shown a_p1 a_p1_off a_p1_waited z_text z_now z_trial z_acts z_slots z_seen v_actCount v_slotsKept v_seed v_hall_count v_hall_layers v_hall_kinds v_hall_patiences v_hall_wanted v_hand_shown v_p1_nights r16.2 v_p1_waited)) (c_Scene_putOn l D cI cZ a_p1 a_p1_off a_p1_waited i3 v_p1_nights v_p1_off r16 h17) hC hA hP hD hS hl.1 cw_PR_155 8 rfl rfl rfl ⟨Nat.le_of_ble_eq_true rfl, Nat.le_of_ble_eq_true rfl⟩ rfl rfl (Nat.le_of_ble_eq_true rfl) d_PR_attempt_81 ⟨Nat.zero_le _, Nat.zero_le _⟩ [8, 9] [0, 1, 2, 3, 4, 5, 6, 7, 10] [0, 1, 2, 3, 4, 5, 6, 7, 9, 10, 8] (by decide) (Cut_mk rfl rfl (by decide) (by decide) (by decide) rfl) (fun H locs hP hD hS => ?_)
            refine lv_if_eq (tgt := 91) hx hb d_PR_attempt_84 (by decide) (fun c18 => ?_) (fun c18 => ?_)
            · have hf := o_pos c18 hf
              exact B_91 v_hand_shown v_p1_nights r16.2 v_p1_waited _ _ _ hP hD hS (lv_sub hl [] rfl) hf
            · have hf := o_neg c18 hf
              refine lv_iconst (v := 1) hx hb d_PR_attempt_87 (by decide) ?_
              refine lv_goto (tgt := 92) hx hb d_PR_attempt_88 (by decide) ?_
              exact B_92 1 v_hand_shown v_p1_nights r16.2 v_p1_waited _ _ _ hP hD hS (lv_sub hl [] rfl) hf
        · have hf := o_neg c12 hf
          by_cases c19 : i2 = 3
          · have hf := o_pos c19 hf
            refine lv_tableIn (off := 92) (tgt := 93) hx hb d_PR_attempt_1 (by rw [c19]; decide) (by rw [c19]; decide) (by rw [c19]; rfl) (by decide) ?_
            refine lv_iload_n hx hb d_PR_attempt_93 rfl (lv_at hl 3 rfl) ?_
            refine lv_if_ne (tgt := 112) hx hb d_PR_attempt_94 (by decide) (fun c20 => ?_) (fun c20 => ?_)
            · have hf := o_neg c20 hf
              exact B_112 v_hand_shown v_p1_nights v_p1_off v_p1_waited _ _ _ hP hD hS (lv_sub hl [] rfl) hf
            · have hf := o_pos c20 hf
              refine lv_aload_n hx hb d_PR_attempt_97 rfl (lv_at hl 1 rfl) ?_
              refine lv_aload_n hx hb d_PR_attempt_98 rfl (lv_at hl 1 rfl) ?_
              obtain ⟨r21, h22, hf⟩ := o_bind hf
              refine cVi (rest := [.ref a_p1]) (wr := [(a_p0, .inr (6, [.ref z_text, .ref a_hall, .ref z_now, .ref z_trial, .ref a_hand, .ref z_acts, .ref z_slots, .ref z_seen, .int v_actCount, .int v_slotsKept, .long v_seed])), (a_hall, .inr (0, [.ref a_hall_layers, .ref a_hall_kinds, .ref a_hall_patiences, .ref a_hall_wanted, .int v_hall_count])), (a_hall_layers, .inl (cI, 12, .inl v_hall_layers)), (a_hall_kinds, .inl (cI, 5, .inl v_hall_kinds)), (a_hall_patiences, .inl (cI, 5, .inl v_hall_patiences)), (a_hall_wanted, .inl (cI, 20, .inl v_hall_wanted)), (a_hand, .inr (1, [.ref a_hand_shown])), (a_hand_shown, .inl (cI, 4, .inl v_hand_shown)), (a_p1_off, .inl (cI, 4, .inl v_p1_off))]) (wn := (cs_PR_attempt cI cZ a_p0 a_hall a_hall_layers a_hall_kinds a_hall_patiences a_hall_wanted a_hand a_hand_shown a_p1 a_p1_off a_p1_waited z_text z_now z_trial z_acts z_slots z_seen v_actCount v_slotsKept v_seed v_hall_count v_hall_layers v_hall_kinds v_hall_patiences v_hall_wanted v_hand_shown v_p1_nights v_p1_off v_p1_waited)) (c_Scene_first l D cI cZ a_p1 a_p1_waited a_p1_off v_p1_nights v_p1_waited r21 h22) hC hA hP hD hS hl.1 cw_PR_158 8 rfl rfl rfl ⟨Nat.le_of_ble_eq_true rfl, Nat.le_of_ble_eq_true rfl⟩ rfl rfl (Nat.le_of_ble_eq_true rfl) d_PR_attempt_99 ⟨Nat.zero_le _, Nat.zero_le _⟩ [8, 10] [0, 1, 2, 3, 4, 5, 6, 7, 9] [0, 1, 2, 3, 4, 5, 6, 7, 9, 8, 10] (by decide) (Cut_mk rfl rfl (by decide) (by decide) (by decide) rfl) (fun H locs hP hD hS => ?_)
              obtain ⟨r23, h24, hf⟩ := o_bind hf
              refine cVi (rest := []) (wr := [(a_p0, .inr (6, [.ref z_text, .ref a_hall, .ref z_now, .ref z_trial, .ref a_hand, .ref z_acts, .ref z_slots, .ref z_seen, .int v_actCount, .int v_slotsKept, .long v_seed])), (a_hall, .inr (0, [.ref a_hall_layers, .ref a_hall_kinds, .ref a_hall_patiences, .ref a_hall_wanted, .int v_hall_count])), (a_hall_layers, .inl (cI, 12, .inl v_hall_layers)), (a_hall_kinds, .inl (cI, 5, .inl v_hall_kinds)), (a_hall_patiences, .inl (cI, 5, .inl v_hall_patiences)), (a_hall_wanted, .inl (cI, 20, .inl v_hall_wanted)), (a_hand, .inr (1, [.ref a_hand_shown])), (a_hand_shown, .inl (cI, 4, .inl v_hand_shown)), (a_p1_off, .inl (cI, 4, .inl v_p1_off))]) (wn := (cs_PR_attempt cI cZ a_p0 a_hall a_hall_layers a_hall_kinds a_hall_patiences a_hall_wanted a_hand a_hand_shown a_p1 a_p1_off a_p1_waited z_text z_now z_trial z_acts z_slots z_seen v_actCount v_slotsKept v_seed v_hall_count v_hall_layers v_hall_kinds v_hall_patiences v_hall_wanted v_hand_shown v_p1_nights v_p1_off r23.2)) (c_Scene_letGo l D cI cZ a_p1 a_p1_waited a_p1_off r21 v_p1_nights v_p1_waited r23 h24) hC hA hP hD hS hl.1 cw_PR_161 8 rfl rfl rfl ⟨Nat.le_of_ble_eq_true rfl, Nat.le_of_ble_eq_true rfl⟩ rfl rfl (Nat.le_of_ble_eq_true rfl) d_PR_attempt_102 ⟨Nat.zero_le _, Nat.zero_le _⟩ [8, 10] [0, 1, 2, 3, 4, 5, 6, 7, 9] [0, 1, 2, 3, 4, 5, 6, 7, 9, 8, 10] (by decide) (Cut_mk rfl rfl (by decide) (by decide) (by decide) rfl) (fun H locs hP hD hS => ?_)
              refine lv_if_eq (tgt := 112) hx hb d_PR_attempt_105 (by decide) (fun c25 => ?_) (fun c25 => ?_)
              · have hf := o_pos c25 hf
                exact B_112 v_hand_shown v_p1_nights v_p1_off r23.2 _ _ _ hP hD hS (lv_sub hl [] rfl) hf
              · have hf := o_neg c25 hf
                refine lv_iconst (v := 1) hx hb d_PR_attempt_108 (by decide) ?_
                refine lv_goto (tgt := 113) hx hb d_PR_attempt_109 (by decide) ?_
                exact B_113 1 v_hand_shown v_p1_nights v_p1_off r23.2 _ _ _ hP hD hS (lv_sub hl [] rfl) hf
          · have hf := o_neg c19 hf
            have ec1 := sw_ne (k := 0) (by decide) c1
            have ec5 := sw_ne (k := 1) (by decide) c5
            have ec12 := sw_ne (k := 2) (by decide) c12
            have ec19 := sw_ne (k := 3) (by decide) c19
            refine lv_tableOut (tgt := 114) hx hb d_PR_attempt_1 (by omega) (by decide) ?_
            refine lv_iconst (v := 0) hx hb d_PR_attempt_114 (by decide) ?_
            have hr := Option.some.inj hf
            exact RET _ _ _ _ _ _ rfl (congrArg (fun r : Int32 × (Nat → Int32) × Int32 × (Nat → Int32) × (Nat → Int32) => r.1) hr) (congrArg (fun r : Int32 × (Nat → Int32) × Int32 × (Nat → Int32) × (Nat → Int32) => (cs_PR_attempt cI cZ a_p0 a_hall a_hall_layers a_hall_kinds a_hall_patiences a_hall_wanted a_hand a_hand_shown a_p1 a_p1_off a_p1_waited z_text z_now z_trial z_acts z_slots z_seen v_actCount v_slotsKept v_seed v_hall_count v_hall_layers v_hall_kinds v_hall_patiences v_hall_wanted r.2.1 r.2.2.1 r.2.2.2.1 r.2.2.2.2)) hr) hP hD hS d_PR_attempt_115
  exact E _ _ hP hS
set_option maxHeartbeats 4000000 in
set_option maxRecDepth 100000 in
theorem c_PR_judge (l : Launch) (D : va_G) (cI cZ : ClassId) (a_p0 a_hall a_hall_layers a_hall_kinds a_hall_patiences a_hall_wanted a_now a_now_off a_now_waited a_trial a_trial_off a_trial_waited a_hand a_hand_shown z_text z_acts z_slots z_seen : Nat) (i1 : Int32) (i2 : Int32) (v_actCount : Int32) (v_slotsKept : Int32) (v_seed : Int64) (v_hall_count : Int32) (v_hall_layers : Nat → Int32) (v_hall_kinds : Nat → Int32) (v_hall_patiences : Nat → Int32) (v_hall_wanted : Nat → Int32) (v_now_nights : Int32) (v_now_off : Nat → Int32) (v_now_waited : Nat → Int32) (v_trial_nights : Int32) (v_trial_off : Nat → Int32) (v_trial_waited : Nat → Int32) (v_hand_shown : Nat → Int32) (res : Int32 × Int32 × (Nat → Int32) × (Nat → Int32) × (Nat → Int32)) (hf : f_PR_judge i1 i2 v_hall_count v_hall_layers v_hall_kinds v_hall_patiences v_hall_wanted v_now_nights v_now_off v_now_waited v_trial_nights v_trial_off v_trial_waited v_hand_shown = some res) : CtI l y_PR_judge b_PR_judge 5 (some .int) 6 D cI cZ [.ref a_p0, .int i1, .int i2] (cs_PR_judge cI cZ a_p0 a_hall a_hall_layers a_hall_kinds a_hall_patiences a_hall_wanted a_now a_now_off a_now_waited a_trial a_trial_off a_trial_waited a_hand a_hand_shown z_text z_acts z_slots z_seen v_actCount v_slotsKept v_seed v_hall_count v_hall_layers v_hall_kinds v_hall_patiences v_hall_wanted v_now_nights v_now_off v_now_waited v_trial_nights v_trial_off v_trial_waited v_hand_shown) res.1 (cs_PR_judge cI cZ a_p0 a_hall a_hall_layers a_hall_kinds a_hall_patiences a_hall_wanted a_now a_now_off a_now_waited a_trial a_trial_off a_trial_waited a_hand a_hand_shown z_text z_acts z_slots z_seen v_actCount v_slotsKept v_seed v_hall_count v_hall_layers v_hall_kinds v_hall_patiences v_hall_wanted v_now_nights v_now_off v_now_waited res.2.1 res.2.2.1 res.2.2.2.1 res.2.2.2.2) := by
  refine CtI_mk (by decide) (Nat.le_of_ble_eq_true rfl) ?_
  intro p e s m args below meth c A Q hC hA hP hD RET ls hl
  have hC : Cx p s m args meth c b_PR_judge 5 R_PR D cI cZ := hC
  have hl : lv_has ls 5 [(0, .ref a_p0), (1, .int i1), (2, .int i2)] := hl
  obtain ⟨hx, hb, hml, hown, hts, hlk, hKK⟩ := id hC
  have hS : va_S A s.heap s.heap [] := va_S.rf
  have B_23 : ∀  (v_trial_nights : Int32) (v_trial_off : Nat → Int32) (v_trial_waited : Nat → Int32) (v_hand_shown : Nat → Int32) (H : Heap) (locs : List Loc) (ls : Array Slot), va_P D classes (cs_PR_judge cI cZ a_p0 a_hall a_hall_layers a_hall_kinds a_hall_patiences a_hall_wanted a_now a_now_off a_now_waited a_trial a_trial_off a_trial_waited a_hand a_hand_shown z_text z_acts z_slots z_seen v_actCount v_slotsKept v_seed v_hall_count v_hall_layers v_hall_kinds v_hall_patiences v_hall_wanted v_now_nights v_now_off v_now_waited v_trial_nights v_trial_off v_trial_waited v_hand_shown) H → va_D A (cs_PR_judge cI cZ a_p0 a_hall a_hall_layers a_hall_kinds a_hall_patiences a_hall_wanted a_now a_now_off a_now_waited a_trial a_trial_off a_trial_waited a_hand a_hand_shown z_text z_acts z_slots z_seen v_actCount v_slotsKept v_seed v_hall_count v_hall_layers v_hall_kinds v_hall_patiences v_hall_wanted v_now_nights v_now_off v_now_waited v_trial_nights v_trial_off v_trial_waited v_hand_shown) → va_S A s.heap H locs → lv_has ls 5 [] → f_PR_judge_23  v_hall_count v_hall_layers v_hall_kinds v_hall_patiences v_hall_wanted v_now_nights v_now_off v_now_waited v_trial_nights v_trial_off v_trial_waited v_hand_shown = some res → W p l e (rm_ 6 (40 * 6)) s m args below meth c H locs 0 0 Q (F0 m 23 ls []) := by
    intro  v_trial_nights v_trial_off v_trial_waited v_hand_shown H locs ls hP hD hS hl hf
    unfold f_PR_judge_23 at hf
    refine lv_bipush (v := (-2)) hx hb d_PR_judge_23 (by decide) ?_
    have hr := Option.some.inj hf
    exact RET _ _ _ _ _ _ rfl (congrArg (fun r : Int32 × Int32 × (Nat → Int32) × (Nat → Int32) × (Nat → Int32) => r.1) hr) (congrArg (fun r : Int32 × Int32 × (Nat → Int32) × (Nat → Int32) × (Nat → Int32) => (cs_PR_judge cI cZ a_p0 a_hall a_hall_layers a_hall_kinds a_hall_patiences a_hall_wanted a_now a_now_off a_now_waited a_trial a_trial_off a_trial_waited a_hand a_hand_shown z_text z_acts z_slots z_seen v_actCount v_slotsKept v_seed v_hall_count v_hall_layers v_hall_kinds v_hall_patiences v_hall_wanted v_now_nights v_now_off v_now_waited r.2.1 r.2.2.1 r.2.2.2.1 r.2.2.2.2)) hr) hP hD hS d_PR_judge_25
  have B_39 : ∀  (n : Nat) (x1 : Int32) (x2 : Int32) (x3 : Int32) (v_trial_nights : Int32) (v_trial_off : Nat → Int32) (v_trial_waited : Nat → Int32) (v_hand_shown : Nat → Int32) (H : Heap) (locs : List Loc) (ls : Array Slot), va_P D classes (cs_PR_judge cI cZ a_p0 a_hall a_hall_layers a_hall_kinds a_hall_patiences a_hall_wanted a_now a_now_off a_now_waited a_trial a_trial_off a_trial_waited a_hand a_hand_shown z_text z_acts z_slots z_seen v_actCount v_slotsKept v_seed v_hall_count v_hall_layers v_hall_kinds v_hall_patiences v_hall_wanted v_now_nights v_now_off v_now_waited v_trial_nights v_trial_off v_trial_waited v_hand_shown) H → va_D A (cs_PR_judge cI cZ a_p0 a_hall a_hall_layers a_hall_kinds a_hall_patiences a_hall_wanted a_now a_now_off a_now_waited a_trial a_trial_off a_trial_waited a_hand a_hand_shown z_text z_acts z_slots z_seen v_actCount v_slotsKept v_seed v_hall_count v_hall_layers v_hall_kinds v_hall_patiences v_hall_wanted v_now_nights v_now_off v_now_waited v_trial_nights v_trial_off v_trial_waited v_hand_shown) → va_S A s.heap H locs → lv_has ls 5 [(0, .ref a_p0), (1, .int x1), (2, .int x2), (3, .int x3)] → f_PR_judge_39  v_hall_count v_hall_layers v_hall_kinds v_hall_patiences v_hall_wanted v_now_nights v_now_off v_now_waited n x1 x2 x3 v_trial_nights v_trial_off v_trial_waited v_hand_shown = some res → W p l e (rm_ 6 (40 * 6)) s m args below meth c H locs 0 0 Q (F0 m 39 ls []) := by
    intro  n
    induction n with
    | zero => intro x1 x2 x3 v_trial_nights v_trial_off v_trial_waited v_hand_shown H locs ls hP hD hS hl hf; exact nomatch hf
    | succ n ih =>
      intro x1 x2 x3 v_trial_nights v_trial_off v_trial_waited v_hand_shown H locs ls hP hD hS hl hf
      have hf : f_PR_judge_39_b  (f_PR_judge_39  v_hall_count v_hall_layers v_hall_kinds v_hall_patiences v_hall_wanted v_now_nights v_now_off v_now_waited n) v_hall_count v_hall_layers v_hall_kinds v_hall_patiences v_hall_wanted v_now_nights v_now_off v_now_waited x1 x2 x3 v_trial_nights v_trial_off v_trial_waited v_hand_shown = some res := hf
      generalize f_PR_judge_39  v_hall_count v_hall_layers v_hall_kinds v_hall_patiences v_hall_wanted v_now_nights v_now_off v_now_waited n = back_39 at ih hf
      have K_39 := ih
      unfold f_PR_judge_39_b at hf
      refine lv_iload_n hx hb d_PR_judge_39 rfl (lv_at hl 3 rfl) ?_
      refine lv_iload_n hx hb d_PR_judge_40 rfl (lv_at hl 1 rfl) ?_
      refine lv_icmp_ge (tgt := 84) hx hb d_PR_judge_41 (by decide) (fun c1 => ?_) (fun c1 => ?_)
      · have hf := o_pos c1 hf
        refine lv_bipush (v := (-9)) hx hb d_PR_judge_84 (by decide) ?_
        have hr := Option.some.inj hf
        exact RET _ _ _ _ _ _ rfl (congrArg (fun r : Int32 × Int32 × (Nat → Int32) × (Nat → Int32) × (Nat → Int32) => r.1) hr) (congrArg (fun r : Int32 × Int32 × (Nat → Int32) × (Nat → Int32) × (Nat → Int32) => (cs_PR_judge cI cZ a_p0 a_hall a_hall_layers a_hall_kinds a_hall_patiences a_hall_wanted a_now a_now_off a_now_waited a_trial a_trial_off a_trial_waited a_hand a_hand_shown z_text z_acts z_slots z_seen v_actCount v_slotsKept v_seed v_hall_count v_hall_layers v_hall_kinds v_hall_patiences v_hall_wanted v_now_nights v_now_off v_now_waited r.2.1 r.2.2.1 r.2.2.2.1 r.2.2.2.2)) hr) hP hD hS d_PR_judge_86
      · have hf := o_neg c1 hf
        refine lv_iload_n hx hb d_PR_judge_44 rfl (lv_at hl 1 rfl) ?_
        refine lv_iload_n hx hb d_PR_judge_45 rfl (lv_at hl 2 rfl) ?_
        refine lv_iload_n hx hb d_PR_judge_46 rfl (lv_at hl 3 rfl) ?_
        obtain ⟨r2, h3, hf⟩ := o_bind hf
        refine cSi0 (rest := []) (c_PR_doingAt l D cI cZ x1 x2 x3 r2 h3) hC hA hP hD hS hl.1 cw_PR_194 ⟨Nat.le_of_ble_eq_true rfl, Nat.le_of_ble_eq_true rfl⟩ rfl rfl (Nat.le_of_ble_eq_true rfl) d_PR_judge_47 ⟨Nat.zero_le _, Nat.zero_le _⟩ (fun H locs hP hS => ?_)
        refine lv_bipush (v := 100) hx hb d_PR_judge_50 (by decide) ?_
        refine lv_irem hx hb d_PR_judge_52 (by decide) ?_
        refine lv_istore (lv' := [(4, .int (rmI r2 100)), (0, .ref a_p0), (1, .int x1), (2, .int x2), (3, .int x3)]) hx hb d_PR_judge_53 hl (by decide) rfl (fun ls hl => ?_)
        refine lv_aload_n hx hb d_PR_judge_55 rfl (lv_at hl 1 rfl) ?_
        refine lv_aload_n hx hb d_PR_judge_56 rfl (lv_at hl 1 rfl) ?_
        refine gf_PR_30 hC hP 0 rfl rfl d_PR_judge_57 ?_
        refine lv_iload hx hb d_PR_judge_60 (lv_at hl 0 rfl) ?_
        refine lv_bipush (v := 10) hx hb d_PR_judge_62 (by decide) ?_
        refine lv_idiv hx hb d_PR_judge_64 (by decide) ?_
        refine lv_iload hx hb d_PR_judge_65 (lv_at hl 0 rfl) ?_
        refine lv_bipush (v := 10) hx hb d_PR_judge_67 (by decide) ?_
        refine lv_irem hx hb d_PR_judge_69 (by decide) ?_
        obtain ⟨r4, h5, hf⟩ := o_bind hf
        refine cVi (rest := []) (wr := [(a_now, .inr (2, [.ref a_now_off, .ref a_now_waited, .int v_now_nights])), (a_now_off, .inl (cI, 4, .inl v_now_off)), (a_now_waited, .inl (cI, 5, .inl v_now_waited))]) (wn := (cs_PR_judge cI cZ a_p0 a_hall a_hall_layers a_hall_kinds a_hall_patiences a_hall_wanted a_now a_now_off a_now_waited a_trial a_trial_off a_trial_waited a_hand a_hand_shown z_text z_acts z_slots z_seen v_actCount v_slotsKept v_seed v_hall_count v_hall_layers v_hall_kinds v_hall_patiences v_hall_wanted v_now_nights v_now_off v_now_waited r4.2.2.1 r4.2.2.2.1 r4.2.2.2.2 r4.2.1)) (c_PR_attempt l D cI cZ a_p0 a_hall a_hall_layers a_hall_kinds a_hall_patiences a_hall_wanted a_hand a_hand_shown a_trial a_trial_off a_trial_waited z_text a_now a_trial z_acts z_slots z_seen ((rmI r2 100) / 10) (rmI (rmI r2 100) 10) v_actCount v_slotsKept v_seed v_hall_count v_hall_layers v_hall_kinds v_hall_patiences v_hall_wanted v_hand_shown v_trial_nights v_trial_off v_trial_waited r4 h5) hC hA hP hD hS hl.1 cw_PR_198 0 rfl rfl rfl ⟨Nat.le_of_ble_eq_true rfl, Nat.le_of_ble_eq_true rfl⟩ rfl rfl (Nat.le_of_ble_eq_true rfl) d_PR_judge_70 ⟨Nat.zero_le _, Nat.zero_le _⟩ [0, 1, 2, 3, 4, 5, 12, 13, 9, 10, 11] [6, 7, 8] [3, 4, 5, 6, 7, 8, 0, 1, 2, 11, 12, 13, 9, 10] (by decide) (Cut_mk rfl rfl (by decide) (by decide) (by decide) rfl) (fun H locs hP hD hS => ?_)
        refine lv_if_ne (tgt := 78) hx hb d_PR_judge_73 (by decide) (fun c6 => ?_) (fun c6 => ?_)
        · have hf := o_neg c6 hf
          refine lv_iinc (v := x3 + 1) (lv' := [(3, .int (x3 + 1)), (4, .int (rmI r2 100)), (0, .ref a_p0), (1, .int x1), (2, .int x2)]) hx hb d_PR_judge_78 hl (k := 4) rfl (rfl) (by decide) rfl (fun ls hl => ?_)
          refine lv_goto (tgt := 39) hx hb d_PR_judge_81 (by decide) ?_
          exact K_39 x1 x2 (x3 + 1) r4.2.2.1 r4.2.2.2.1 r4.2.2.2.2 r4.2.1 _ _ _ hP hD hS (lv_sub hl [2, 3, 4, 0] rfl) hf
        · have hf := o_pos c6 hf
          refine lv_iload_n hx hb d_PR_judge_76 rfl (lv_at hl 4 rfl) ?_
          have hr := Option.some.inj hf
          exact RET _ _ _ _ _ _ rfl (congrArg (fun r : Int32 × Int32 × (Nat → Int32) × (Nat → Int32) × (Nat → Int32) => r.1) hr) (congrArg (fun r : Int32 × Int32 × (Nat → Int32) × (Nat → Int32) × (Nat → Int32) => (cs_PR_judge cI cZ a_p0 a_hall a_hall_layers a_hall_kinds a_hall_patiences a_hall_wanted a_now a_now_off a_now_waited a_trial a_trial_off a_trial_waited a_hand a_hand_shown z_text z_acts z_slots z_seen v_actCount v_slotsKept v_seed v_hall_count v_hall_layers v_hall_kinds v_hall_patiences v_hall_wanted v_now_nights v_now_off v_now_waited r.2.1 r.2.2.1 r.2.2.2.1 r.2.2.2.2)) hr) hP hD hS d_PR_judge_77
  unfold f_PR_judge at hf
  have E : ∀ (H : Heap) (locs : List Loc), va_P D classes (cs_PR_judge cI cZ a_p0 a_hall a_hall_layers a_hall_kinds a_hall_patiences a_hall_wanted a_now a_now_off a_now_waited a_trial a_trial_off a_trial_waited a_hand a_hand_shown z_text z_acts z_slots z_seen v_actCount v_slotsKept v_seed v_hall_count v_hall_layers v_hall_kinds v_hall_patiences v_hall_wanted v_now_nights v_now_off v_now_waited v_trial_nights v_trial_off v_trial_waited v_hand_shown) H → va_S A s.heap H locs → W p l e (rm_ 6 (40 * 6)) s m args below meth c H locs 0 0 Q (F0 m 0 ls []) := by
    intro H locs hP hS
    refine lv_iload_n hx hb d_PR_judge_0 rfl (lv_at hl 1 rfl) ?_
    refine lv_iconst (v := 1) hx hb d_PR_judge_1 (by decide) ?_
    refine lv_icmp_lt (tgt := 23) hx hb d_PR_judge_2 (by decide) (fun c1 => ?_) (fun c1 => ?_)
    · have hf := o_pos c1 hf
      exact B_23 v_trial_nights v_trial_off v_trial_waited v_hand_shown _ _ _ hP hD hS (lv_sub hl [] rfl) hf
    · have hf := o_neg c1 hf
      refine lv_iload_n hx hb d_PR_judge_5 rfl (lv_at hl 1 rfl) ?_
      refine lv_iconst (v := 4) hx hb d_PR_judge_6 (by decide) ?_
      refine lv_icmp_gt (tgt := 23) hx hb d_PR_judge_7 (by decide) (fun c2 => ?_) (fun c2 => ?_)
      · have hf := o_pos c2 hf
        exact B_23 v_trial_nights v_trial_off v_trial_waited v_hand_shown _ _ _ hP hD hS (lv_sub hl [] rfl) hf
      · have hf := o_neg c2 hf
        refine lv_iload_n hx hb d_PR_judge_10 rfl (lv_at hl 2 rfl) ?_
        refine lv_if_lt (tgt := 23) hx hb d_PR_judge_11 (by decide) (fun c3 => ?_) (fun c3 => ?_)
        · have hf := o_pos c3 hf
          exact B_23 v_trial_nights v_trial_off v_trial_waited v_hand_shown _ _ _ hP hD hS (lv_sub hl [] rfl) hf
        · have hf := o_neg c3 hf
          refine lv_iload_n hx hb d_PR_judge_14 rfl (lv_at hl 1 rfl) ?_
          refine lv_iload_n hx hb d_PR_judge_15 rfl (lv_at hl 2 rfl) ?_
          refine lv_iconst (v := (-1)) hx hb d_PR_judge_16 (by decide) ?_
          obtain ⟨r4, h5, hf⟩ := o_bind hf
          refine cSi0 (rest := []) (c_PR_doingAt l D cI cZ i1 i2 ((-1)) r4 h5) hC hA hP hD hS hl.1 cw_PR_194 ⟨Nat.le_of_ble_eq_true rfl, Nat.le_of_ble_eq_true rfl⟩ rfl rfl (Nat.le_of_ble_eq_true rfl) d_PR_judge_17 ⟨Nat.zero_le _, Nat.zero_le _⟩ (fun H locs hP hS => ?_)
          refine lv_if_eq (tgt := 26) hx hb d_PR_judge_20 (by decide) (fun c6 => ?_) (fun c6 => ?_)
          · have hf := o_pos c6 hf
            refine lv_aload_n hx hb d_PR_judge_26 rfl (lv_at hl 0 rfl) ?_
            refine gf_PR_30 hC hP 0 rfl rfl d_PR_judge_27 ?_
            refine lv_aload_n hx hb d_PR_judge_30 rfl (lv_at hl 0 rfl) ?_
            refine gf_PR_26 hC hP 0 rfl rfl d_PR_judge_31 ?_
            obtain ⟨r7, h8, hf⟩ := o_bind hf
            refine cVv (rest := []) (wr := [(a_p0, .inr (6, [.ref z_text, .ref a_hall, .ref a_now, .ref a_trial, .ref a_hand, .ref z_acts, .ref z_slots, .ref z_seen, .int v_actCount, .int v_slotsKept, .long v_seed])), (a_hall, .inr (0, [.ref a_hall_layers, .ref a_hall_kinds, .ref a_hall_patiences, .ref a_hall_wanted, .int v_hall_count])), (a_hall_layers, .inl (cI, 12, .inl v_hall_layers)), (a_hall_kinds, .inl (cI, 5, .inl v_hall_kinds)), (a_hall_patiences, .inl (cI, 5, .inl v_hall_patiences)), (a_hall_wanted, .inl (cI, 20, .inl v_hall_wanted)), (a_hand, .inr (1, [.ref a_hand_shown])), (a_hand_shown, .inl (cI, 4, .inl v_hand_shown))]) (wn := (cs_PR_judge cI cZ a_p0 a_hall a_hall_layers a_hall_kinds a_hall_patiences a_hall_wanted a_now a_now_off a_now_waited a_trial a_trial_off a_trial_waited a_hand a_hand_shown z_text z_acts z_slots z_seen v_actCount v_slotsKept v_seed v_hall_count v_hall_layers v_hall_kinds v_hall_patiences v_hall_wanted v_now_nights v_now_off v_now_waited r7.1 r7.2.1 r7.2.2 v_hand_shown)) (c_Scene_copy l D cI cZ a_trial a_trial_off a_trial_waited a_now a_now_off a_now_waited v_trial_nights v_trial_off v_trial_waited v_now_nights v_now_off v_now_waited r7 h8) hC hA hP hD hS hl.1 cw_PR_186 9 rfl rfl rfl ⟨Nat.le_of_ble_eq_true rfl, Nat.le_of_ble_eq_true rfl⟩ rfl rfl (Nat.le_of_ble_eq_true rfl) d_PR_judge_34 ⟨Nat.zero_le _, Nat.zero_le _⟩ [9, 10, 11, 6, 7, 8] [0, 1, 2, 3, 4, 5, 12, 13] [0, 1, 2, 3, 4, 5, 11, 12, 13, 8, 9, 10, 6, 7] (by decide) (Cut_mk rfl rfl (by decide) (by decide) (by decide) rfl) (fun H locs hP hD hS => ?_)
            refine lv_iconst (v := 0) hx hb d_PR_judge_37 (by decide) ?_
            refine lv_istore_n (lv' := [(3, .int 0), (0, .ref a_p0), (1, .int i1), (2, .int i2)]) hx hb d_PR_judge_38 rfl hl (by decide) rfl (fun ls hl => ?_)
            exact B_39 300 i1 i2 0 r7.1 r7.2.1 r7.2.2 v_hand_shown _ _ _ hP hD hS (lv_sub hl [1, 2, 3, 0] rfl) hf
          · have hf := o_neg c6 hf
            exact B_23 v_trial_nights v_trial_off v_trial_waited v_hand_shown _ _ _ hP hD hS (lv_sub hl [] rfl) hf
  exact E _ _ hP hS
set_option maxHeartbeats 4000000 in
set_option maxRecDepth 100000 in
theorem c_PR_hailedWhenCome (l : Launch) (D : va_G) (cI cZ : ClassId) (a_p0 a_hall a_hall_layers a_hall_kinds a_hall_wanted a_now a_now_off a_hand a_hand_shown z_text z_trial z_acts z_slots z_seen z_hall_patiences z_now_waited : Nat) (i1 : Int32) (v_actCount : Int32) (v_slotsKept : Int32) (v_seed : Int64) (v_hall_count : Int32) (v_hall_layers : Nat → Int32) (v_hall_kinds : Nat → Int32) (v_hall_wanted : Nat → Int32) (v_now_nights : Int32) (v_now_off : Nat → Int32) (v_hand_shown : Nat → Int32) (res : Int32 × (Nat → Int32)) (hf : f_PR_hailedWhenCome i1 v_hall_count v_hall_layers v_hall_kinds v_hall_wanted v_now_off v_hand_shown = some res) : CtI l y_PR_hailedWhenCome b_PR_hailedWhenCome 3 (some .int) 3 D cI cZ [.ref a_p0, .int i1] (cs_PR_hailedWhenCome cI cZ a_p0 a_hall a_hall_layers a_hall_kinds a_hall_wanted a_now a_now_off a_hand a_hand_shown z_text z_trial z_acts z_slots z_seen z_hall_patiences z_now_waited v_actCount v_slotsKept v_seed v_hall_count v_hall_layers v_hall_kinds v_hall_wanted v_now_nights v_now_off v_hand_shown) res.1 (cs_PR_hailedWhenCome cI cZ a_p0 a_hall a_hall_layers a_hall_kinds a_hall_wanted a_now a_now_off a_hand a_hand_shown z_text z_trial z_acts z_slots z_seen z_hall_patiences z_now_waited v_actCount v_slotsKept v_seed v_hall_count v_hall_layers v_hall_kinds v_hall_wanted v_now_nights v_now_off res.2) := by
  refine CtI_mk (by decide) (Nat.le_of_ble_eq_true rfl) ?_
  intro p e s m args below meth c A Q hC hA hP hD RET ls hl
  have hC : Cx p s m args meth c b_PR_hailedWhenCome 3 R_PR D cI cZ := hC
  have hl : lv_has ls 3 [(0, .ref a_p0), (1, .int i1)] := hl
  obtain ⟨hx, hb, hml, hown, hts, hlk, hKK⟩ := id hC
  have hS : va_S A s.heap s.heap [] := va_S.rf
  have B_30 : ∀ (back_2 : Int32 → Int32 → (Nat → Int32) → Option (Int32 × (Nat → Int32))) (K_2 : ∀ (x1 : Int32) (x2 : Int32) (v_hand_shown : Nat → Int32) (H : Heap) (locs : List Loc) (ls : Array Slot), va_P D classes (cs_PR_hailedWhenCome cI cZ a_p0 a_hall a_hall_layers a_hall_kinds a_hall_wanted a_now a_now_off a_hand a_hand_shown z_text z_trial z_acts z_slots z_seen z_hall_patiences z_now_waited v_actCount v_slotsKept v_seed v_hall_count v_hall_layers v_hall_kinds v_hall_wanted v_now_nights v_now_off v_hand_shown) H → va_D A (cs_PR_hailedWhenCome cI cZ a_p0 a_hall a_hall_layers a_hall_kinds a_hall_wanted a_now a_now_off a_hand a_hand_shown z_text z_trial z_acts z_slots z_seen z_hall_patiences z_now_waited v_actCount v_slotsKept v_seed v_hall_count v_hall_layers v_hall_kinds v_hall_wanted v_now_nights v_now_off v_hand_shown) → va_S A s.heap H locs → lv_has ls 3 [(0, .ref a_p0), (1, .int x1), (2, .int x2)] → back_2 x1 x2 v_hand_shown = some res → W p l e (rm_ 3 (40 * 3)) s m args below meth c H locs 0 0 Q (F0 m 2 ls [])) (x1 : Int32) (x2 : Int32) (w1 : Int32) (w2 : Int32) (v_hand_shown : Nat → Int32) (H : Heap) (locs : List Loc) (ls : Array Slot), va_P D classes (cs_PR_hailedWhenCome cI cZ a_p0 a_hall a_hall_layers a_hall_kinds a_hall_wanted a_now a_now_off a_hand a_hand_shown z_text z_trial z_acts z_slots z_seen z_hall_patiences z_now_waited v_actCount v_slotsKept v_seed v_hall_count v_hall_layers v_hall_kinds v_hall_wanted v_now_nights v_now_off v_hand_shown) H → va_D A (cs_PR_hailedWhenCome cI cZ a_p0 a_hall a_hall_layers a_hall_kinds a_hall_wanted a_now a_now_off a_hand a_hand_shown z_text z_trial z_acts z_slots z_seen z_hall_patiences z_now_waited v_actCount v_slotsKept v_seed v_hall_count v_hall_layers v_hall_kinds v_hall_wanted v_now_nights v_now_off v_hand_shown) → va_S A s.heap H locs → lv_has ls 3 [(0, .ref a_p0), (1, .int x1), (2, .int x2)] → f_PR_hailedWhenCome_30 back_2 v_hall_count v_hall_layers v_hall_kinds v_hall_wanted v_now_off x1 x2 w1 w2 v_hand_shown = some res → W p l e (rm_ 3 (40 * 3)) s m args below meth c H locs 0 0 Q (F0 m 30 ls [.int w2, .int w1, .ref a_hand]) := by
    intro back_2 K_2 x1 x2 w1 w2 v_hand_shown H locs ls hP hD hS hl hf
    unfold f_PR_hailedWhenCome_30 at hf
    obtain ⟨r1, h2, hf⟩ := o_bind hf
    refine cVv (rest := []) (wr := [(a_p0, .inr (6, [.ref z_text, .ref a_hall, .ref a_now, .ref z_trial, .ref a_hand, .ref z_acts, .ref z_slots, .ref z_seen, .int v_actCount, .int v_slotsKept, .long v_seed])), (a_hall, .inr (0, [.ref a_hall_layers, .ref a_hall_kinds, .ref z_hall_patiences, .ref a_hall_wanted, .int v_hall_count])), (a_hall_layers, .inl (cI, 12, .inl v_hall_layers)), (a_hall_kinds, .inl (cI, 5, .inl v_hall_kinds)), (a_hall_wanted, .inl (cI, 20, .inl v_hall_wanted)), (a_now, .inr (2, [.ref a_now_off, .ref z_now_waited, .int v_now_nights])), (a_now_off, .inl (cI, 4, .inl v_now_off))]) (wn := (cs_PR_hailedWhenCome cI cZ a_p0 a_hall a_hall_layers a_hall_kinds a_hall_wanted a_now a_now_off a_hand a_hand_shown z_text z_trial z_acts z_slots z_seen z_hall_patiences z_now_waited v_actCount v_slotsKept v_seed v_hall_count v_hall_layers v_hall_kinds v_hall_wanted v_now_nights v_now_off r1)) (c_Hand_show l D cI cZ a_hand a_hand_shown w1 w2 v_hand_shown r1 h2) hC hA hP hD hS hl.1 cw_PR_247 7 rfl rfl rfl ⟨Nat.le_of_ble_eq_true rfl, Nat.le_of_ble_eq_true rfl⟩ rfl rfl (Nat.le_of_ble_eq_true rfl) d_PR_hailedWhenCome_30 ⟨Nat.zero_le _, Nat.zero_le _⟩ [7, 8] [0, 1, 2, 3, 4, 5, 6] [0, 1, 2, 3, 4, 5, 6, 7, 8] (by decide) (Cut_mk rfl rfl (by decide) (by decide) (by decide) rfl) (fun H locs hP hD hS => ?_)
    refine lv_iinc (v := x2 + 1) (lv' := [(2, .int (x2 + 1)), (0, .ref a_p0), (1, .int x1)]) hx hb d_PR_hailedWhenCome_33 hl (k := 2) rfl (rfl) (by decide) rfl (fun ls hl => ?_)
    refine lv_goto (tgt := 2) hx hb d_PR_hailedWhenCome_36 (by decide) ?_
    exact K_2 x1 (x2 + 1) r1 _ _ _ hP hD hS (lv_sub hl [1, 2, 0] rfl) hf
  have B_2 : ∀  (n : Nat) (x1 : Int32) (x2 : Int32) (v_hand_shown : Nat → Int32) (H : Heap) (locs : List Loc) (ls : Array Slot), va_P D classes (cs_PR_hailedWhenCome cI cZ a_p0 a_hall a_hall_layers a_hall_kinds a_hall_wanted a_now a_now_off a_hand a_hand_shown z_text z_trial z_acts z_slots z_seen z_hall_patiences z_now_waited v_actCount v_slotsKept v_seed v_hall_count v_hall_layers v_hall_kinds v_hall_wanted v_now_nights v_now_off v_hand_shown) H → va_D A (cs_PR_hailedWhenCome cI cZ a_p0 a_hall a_hall_layers a_hall_kinds a_hall_wanted a_now a_now_off a_hand a_hand_shown z_text z_trial z_acts z_slots z_seen z_hall_patiences z_now_waited v_actCount v_slotsKept v_seed v_hall_count v_hall_layers v_hall_kinds v_hall_wanted v_now_nights v_now_off v_hand_shown) → va_S A s.heap H locs → lv_has ls 3 [(0, .ref a_p0), (1, .int x1), (2, .int x2)] → f_PR_hailedWhenCome_2  v_hall_count v_hall_layers v_hall_kinds v_hall_wanted v_now_off n x1 x2 v_hand_shown = some res → W p l e (rm_ 3 (40 * 3)) s m args below meth c H locs 0 0 Q (F0 m 2 ls []) := by
    intro  n
    induction n with
    | zero => intro x1 x2 v_hand_shown H locs ls hP hD hS hl hf; exact nomatch hf
    | succ n ih =>
      intro x1 x2 v_hand_shown H locs ls hP hD hS hl hf
      have hf : f_PR_hailedWhenCome_2_b  (f_PR_hailedWhenCome_2  v_hall_count v_hall_layers v_hall_kinds v_hall_wanted v_now_off n) v_hall_count v_hall_layers v_hall_kinds v_hall_wanted v_now_off x1 x2 v_hand_shown = some res := hf
      generalize f_PR_hailedWhenCome_2  v_hall_count v_hall_layers v_hall_kinds v_hall_wanted v_now_off n = back_2 at ih hf
      have K_2 := ih
      unfold f_PR_hailedWhenCome_2_b at hf
      refine lv_iload_n hx hb d_PR_hailedWhenCome_2 rfl (lv_at hl 2 rfl) ?_
      refine lv_iconst (v := 4) hx hb d_PR_hailedWhenCome_3 (by decide) ?_
      refine lv_icmp_ge (tgt := 39) hx hb d_PR_hailedWhenCome_4 (by decide) (fun c1 => ?_) (fun c1 => ?_)
      · have hf := o_pos c1 hf
        refine lv_aload_n hx hb d_PR_hailedWhenCome_39 rfl (lv_at hl 0 rfl) ?_
        refine gf_PR_36 hC hP 0 rfl rfl d_PR_hailedWhenCome_40 ?_
        refine lv_aload_n hx hb d_PR_hailedWhenCome_43 rfl (lv_at hl 0 rfl) ?_
        refine gf_PR_19 hC hP 0 rfl rfl d_PR_hailedWhenCome_44 ?_
        obtain ⟨r2, h3, hf⟩ := o_bind hf
        refine cVi (rest := []) (wr := [(a_p0, .inr (6, [.ref z_text, .ref a_hall, .ref a_now, .ref z_trial, .ref a_hand, .ref z_acts, .ref z_slots, .ref z_seen, .int v_actCount, .int v_slotsKept, .long v_seed])), (a_hall_layers, .inl (cI, 12, .inl v_hall_layers)), (a_now, .inr (2, [.ref a_now_off, .ref z_now_waited, .int v_now_nights])), (a_now_off, .inl (cI, 4, .inl v_now_off))]) (wn := (cs_PR_hailedWhenCome cI cZ a_p0 a_hall a_hall_layers a_hall_kinds a_hall_wanted a_now a_now_off a_hand a_hand_shown z_text z_trial z_acts z_slots z_seen z_hall_patiences z_now_waited v_actCount v_slotsKept v_seed v_hall_count v_hall_layers v_hall_kinds v_hall_wanted v_now_nights v_now_off v_hand_shown)) (c_Hand_hailed l D cI cZ a_hand a_hand_shown a_hall a_hall_kinds a_hall_wanted a_hall_layers z_hall_patiences v_hand_shown v_hall_count v_hall_kinds v_hall_wanted r2 h3) hC hA hP hD hS hl.1 cw_PR_240 7 rfl rfl rfl ⟨Nat.le_of_ble_eq_true rfl, Nat.le_of_ble_eq_true rfl⟩ rfl rfl (Nat.le_of_ble_eq_true rfl) d_PR_hailedWhenCome_47 ⟨Nat.zero_le _, Nat.zero_le _⟩ [7, 8, 1, 3, 4] [0, 2, 5, 6] [0, 6, 1, 7, 8, 2, 3, 4, 5] (by decide) (Cut_mk rfl rfl (by decide) (by decide) (by decide) rfl) (fun H locs hP hD hS => ?_)
        obtain ⟨r4, h5, hf⟩ := o_bind hf
        refine cSi0 (rest := []) (c_Int_bitCount l D cI cZ r2 r4 h5) hC hA hP hD hS hl.1 cw_PR_141 ⟨Nat.le_of_ble_eq_true rfl, Nat.le_of_ble_eq_true rfl⟩ rfl rfl (Nat.le_of_ble_eq_true rfl) d_PR_hailedWhenCome_50 ⟨Nat.zero_le _, Nat.zero_le _⟩ (fun H locs hP hS => ?_)
        have hr := Option.some.inj hf
        exact RET _ _ _ _ _ _ rfl (congrArg (fun r : Int32 × (Nat → Int32) => r.1) hr) (congrArg (fun r : Int32 × (Nat → Int32) => (cs_PR_hailedWhenCome cI cZ a_p0 a_hall a_hall_layers a_hall_kinds a_hall_wanted a_now a_now_off a_hand a_hand_shown z_text z_trial z_acts z_slots z_seen z_hall_patiences z_now_waited v_actCount v_slotsKept v_seed v_hall_count v_hall_layers v_hall_kinds v_hall_wanted v_now_nights v_now_off r.2)) hr) hP hD hS d_PR_hailedWhenCome_53
      · have hf := o_neg c1 hf
        refine lv_aload_n hx hb d_PR_hailedWhenCome_7 rfl (lv_at hl 0 rfl) ?_
        refine gf_PR_36 hC hP 0 rfl rfl d_PR_hailedWhenCome_8 ?_
        refine lv_iload_n hx hb d_PR_hailedWhenCome_11 rfl (lv_at hl 2 rfl) ?_
        refine lv_iload_n hx hb d_PR_hailedWhenCome_12 rfl (lv_at hl 1 rfl) ?_
        refine lv_iload_n hx hb d_PR_hailedWhenCome_13 rfl (lv_at hl 2 rfl) ?_
        refine lv_ishr hx hb d_PR_hailedWhenCome_14 ?_
        refine lv_iconst (v := 1) hx hb d_PR_hailedWhenCome_15 (by decide) ?_
        refine lv_iand hx hb d_PR_hailedWhenCome_16 ?_
        refine lv_iconst (v := 1) hx hb d_PR_hailedWhenCome_17 (by decide) ?_
        refine lv_icmp_ne (tgt := 29) hx hb d_PR_hailedWhenCome_18 (by decide) (fun c6 => ?_) (fun c6 => ?_)
        · have hf := o_neg c6 hf
          refine lv_iconst (v := (-1)) hx hb d_PR_hailedWhenCome_29 (by decide) ?_
          exact B_30 back_2 K_2 x1 x2 x2 ((-1)) v_hand_shown _ _ _ hP hD hS (lv_sub hl [0, 1, 2] rfl) hf
        · have hf := o_pos c6 hf
          refine lv_aload_n hx hb d_PR_hailedWhenCome_21 rfl (lv_at hl 0 rfl) ?_
          refine lv_iload_n hx hb d_PR_hailedWhenCome_22 rfl (lv_at hl 2 rfl) ?_
          obtain ⟨r7, h8, hf⟩ := o_bind hf
          refine cVi (rest := [.int x2, .ref a_hand]) (wr := [(a_hall_kinds, .inl (cI, 5, .inl v_hall_kinds)), (a_hall_wanted, .inl (cI, 20, .inl v_hall_wanted)), (a_hand, .inr (1, [.ref a_hand_shown])), (a_hand_shown, .inl (cI, 4, .inl v_hand_shown))]) (wn := (cs_PR_hailedWhenCome cI cZ a_p0 a_hall a_hall_layers a_hall_kinds a_hall_wanted a_now a_now_off a_hand a_hand_shown z_text z_trial z_acts z_slots z_seen z_hall_patiences z_now_waited v_actCount v_slotsKept v_seed v_hall_count v_hall_layers v_hall_kinds v_hall_wanted v_now_nights v_now_off v_hand_shown)) (c_PR_shown l D cI cZ a_p0 a_hall a_hall_layers a_now a_now_off z_text z_trial a_hand z_acts z_slots z_seen a_hall_kinds z_hall_patiences a_hall_wanted z_now_waited x2 v_actCount v_slotsKept v_seed v_hall_count v_hall_layers v_now_nights v_now_off r7 h8) hC hA hP hD hS hl.1 cw_PR_116 0 rfl rfl rfl ⟨Nat.le_of_ble_eq_true rfl, Nat.le_of_ble_eq_true rfl⟩ rfl rfl (Nat.le_of_ble_eq_true rfl) d_PR_hailedWhenCome_23 ⟨Nat.zero_le _, Nat.zero_le _⟩ [0, 1, 2, 5, 6] [3, 4, 7, 8] [4, 5, 6, 0, 1, 7, 8, 2, 3] (by decide) (Cut_mk rfl rfl (by decide) (by decide) (by decide) rfl) (fun H locs hP hD hS => ?_)
          refine lv_goto (tgt := 30) hx hb d_PR_hailedWhenCome_26 (by decide) ?_
          exact B_30 back_2 K_2 x1 x2 x2 r7 v_hand_shown _ _ _ hP hD hS (lv_sub hl [0, 1, 2] rfl) hf
  unfold f_PR_hailedWhenCome at hf
  have E : ∀ (H : Heap) (locs : List Loc), va_P D classes (cs_PR_hailedWhenCome cI cZ a_p0 a_hall a_hall_layers a_hall_kinds a_hall_wanted a_now a_now_off a_hand a_hand_shown z_text z_trial z_acts z_slots z_seen z_hall_patiences z_now_waited v_actCount v_slotsKept v_seed v_hall_count v_hall_layers v_hall_kinds v_hall_wanted v_now_nights v_now_off v_hand_shown) H → va_S A s.heap H locs → W p l e (rm_ 3 (40 * 3)) s m args below meth c H locs 0 0 Q (F0 m 0 ls []) := by
    intro H locs hP hS
    refine lv_iconst (v := 0) hx hb d_PR_hailedWhenCome_0 (by decide) ?_
    refine lv_istore_n (lv' := [(2, .int 0), (0, .ref a_p0), (1, .int i1)]) hx hb d_PR_hailedWhenCome_1 rfl hl (by decide) rfl (fun ls hl => ?_)
    exact B_2 300 i1 0 v_hand_shown _ _ _ hP hD hS (lv_sub hl [1, 2, 0] rfl) hf
  exact E _ _ hP hS
