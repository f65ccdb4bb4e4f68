set_option maxHeartbeats 4000000 in
set_option maxRecDepth 100000 in
theorem c_PR_ordersBehind (l : Launch) (D : va_G) (cI cZ : ClassId) (i0 : Int32) (res : Int32) (hf : f_PR_ordersBehind i0 = some res) : CtI l y_PR_ordersBehind b_PR_ordersBehind 1 (some .int) 0 D cI cZ [.int i0] [] res [] := by
  refine CtI_mk (by decide) (Nat.le_of_ble_eq_true rfl) ?_
  intro p e s m args below meth c A Q hC hA hP hD RET ls hl
  have hC : Cx p s m args meth c b_PR_ordersBehind 1 R_PR D cI cZ := hC
  have hl : lv_has ls 1 [(0, .int i0)] := hl
  obtain ⟨hx, hb, hml, hown, hts, hlk, hKK⟩ := id hC
  have hS : va_S A s.heap s.heap [] := va_S.rf
  have B_15 : ∀  (w0 : Int32) (H : Heap) (locs : List Loc) (ls : Array Slot), va_P D classes [] H → va_D A [] → va_S A s.heap H locs → lv_has ls 1 [] → f_PR_ordersBehind_15   w0 = some res → W p l e (rm_ 0 (40 * 0)) s m args below meth c H locs 0 0 Q (F0 m 15 ls [.int w0]) := by
    intro  w0 H locs ls hP hD hS hl hf
    unfold f_PR_ordersBehind_15 at hf
    have hr := Option.some.inj hf
    exact RET _ _ _ _ _ _ rfl (congrArg (fun r : Int32 => r) hr) rfl hP hD hS d_PR_ordersBehind_15
  have B_9 : ∀   (H : Heap) (locs : List Loc) (ls : Array Slot), va_P D classes [] H → va_D A [] → va_S A s.heap H locs → lv_has ls 1 [] → f_PR_ordersBehind_9    = some res → W p l e (rm_ 0 (40 * 0)) s m args below meth c H locs 0 0 Q (F0 m 9 ls []) := by
    intro   H locs ls hP hD hS hl hf
    unfold f_PR_ordersBehind_9 at hf
    refine lv_bipush (v := 6) hx hb d_PR_ordersBehind_9 (by decide) ?_
    refine lv_goto (tgt := 15) hx hb d_PR_ordersBehind_11 (by decide) ?_
    exact B_15 6 _ _ _ hP hD hS (lv_sub hl [] rfl) hf
  unfold f_PR_ordersBehind at hf
  have E : ∀ (H : Heap) (locs : List Loc), va_P D classes [] H → va_S A s.heap H locs → W p l e (rm_ 0 (40 * 0)) s m args below meth c H locs 0 0 Q (F0 m 0 ls []) := by
    intro H locs hP hS
    refine lv_iload_n hx hb d_PR_ordersBehind_0 rfl (lv_at hl 0 rfl) ?_
    refine lv_if_eq (tgt := 9) hx hb d_PR_ordersBehind_1 (by decide) (fun c1 => ?_) (fun c1 => ?_)
    · have hf := o_pos c1 hf
      exact B_9 _ _ _ hP hD hS (lv_sub hl [] rfl) hf
    · have hf := o_neg c1 hf
      refine lv_iload_n hx hb d_PR_ordersBehind_4 rfl (lv_at hl 0 rfl) ?_
      refine lv_iconst (v := 3) hx hb d_PR_ordersBehind_5 (by decide) ?_
      refine lv_icmp_ne (tgt := 14) hx hb d_PR_ordersBehind_6 (by decide) (fun c2 => ?_) (fun c2 => ?_)
      · have hf := o_neg c2 hf
        refine lv_iconst (v := 2) hx hb d_PR_ordersBehind_14 (by decide) ?_
        exact B_15 2 _ _ _ hP hD hS (lv_sub hl [] rfl) hf
      · have hf := o_pos c2 hf
        exact B_9 _ _ _ hP hD hS (lv_sub hl [] rfl) hf
  exact E _ _ hP hS
set_option maxHeartbeats 4000000 in
set_option maxRecDepth 100000 in
theorem c_PR_fraction (l : Launch) (D : va_G) (cI cZ : ClassId) (i0 : Int32) (i1 : Int32) (i2 : Int32) (res : Int32) (hf : f_PR_fraction i0 i1 i2 = some res) : CtI l y_PR_fraction b_PR_fraction 7 (some .int) 0 D cI cZ [.int i0, .int i1, .int i2] [] res [] := by
  refine CtI_mk (by decide) (Nat.le_of_ble_eq_true rfl) ?_
  intro p e s m args below meth c A Q hC hA hP hD RET ls hl
  have hC : Cx p s m args meth c b_PR_fraction 7 R_PR D cI cZ := hC
  have hl : lv_has ls 7 [(0, .int i0), (1, .int i1), (2, .int i2)] := hl
  obtain ⟨hx, hb, hml, hown, hts, hlk, hKK⟩ := id hC
  have hS : va_S A s.heap s.heap [] := va_S.rf
  have B_54 : ∀  (x3 : Int32) (w0 : Int32) (H : Heap) (locs : List Loc) (ls : Array Slot), va_P D classes [] H → va_D A [] → va_S A s.heap H locs → lv_has ls 7 [(3, .int x3)] → f_PR_fraction_54   x3 w0 = some res → W p l e (rm_ 0 (40 * 0)) s m args below meth c H locs 0 0 Q (F0 m 54 ls [.int w0]) := by
    intro  x3 w0 H locs ls hP hD hS hl hf
    unfold f_PR_fraction_54 at hf
    refine lv_iload_n hx hb d_PR_fraction_54 rfl (lv_at hl 0 rfl) ?_
    obtain ⟨h1, hf⟩ := o_itn hf
    refine lv_idiv hx hb d_PR_fraction_55 h1 ?_
    have hr := Option.some.inj hf
    exact RET _ _ _ _ _ _ rfl (congrArg (fun r : Int32 => r) hr) rfl hP hD hS d_PR_fraction_56
  have B_39 : ∀  (x0 : Int32) (x1 : Int32) (x2 : Int32) (x3 : Int32) (H : Heap) (locs : List Loc) (ls : Array Slot), va_P D classes [] H → va_D A [] → va_S A s.heap H locs → lv_has ls 7 [(0, .int x0), (1, .int x1), (2, .int x2), (3, .int x3)] → f_PR_fraction_39   x0 x1 x2 x3 = some res → W p l e (rm_ 0 (40 * 0)) s m args below meth c H locs 0 0 Q (F0 m 39 ls []) := by
    intro  x0 x1 x2 x3 H locs ls hP hD hS hl hf
    unfold f_PR_fraction_39 at hf
    refine lv_iload_n hx hb d_PR_fraction_39 rfl (lv_at hl 3 rfl) ?_
    refine lv_if_ne (tgt := 45) hx hb d_PR_fraction_40 (by decide) (fun c1 => ?_) (fun c1 => ?_)
    · have hf := o_neg c1 hf
      refine lv_iload_n hx hb d_PR_fraction_45 rfl (lv_at hl 2 rfl) ?_
      refine lv_if_eq (tgt := 53) hx hb d_PR_fraction_46 (by decide) (fun c2 => ?_) (fun c2 => ?_)
      · have hf := o_pos c2 hf
        refine lv_iload_n hx hb d_PR_fraction_53 rfl (lv_at hl 1 rfl) ?_
        exact B_54 x3 x1 _ _ _ hP hD hS (lv_sub hl [3] rfl) hf
      · have hf := o_neg c2 hf
        refine lv_iload_n hx hb d_PR_fraction_49 rfl (lv_at hl 0 rfl) ?_
        refine lv_goto (tgt := 54) hx hb d_PR_fraction_50 (by decide) ?_
        exact B_54 x3 x0 _ _ _ hP hD hS (lv_sub hl [3] rfl) hf
    · have hf := o_pos c1 hf
      refine lv_iconst (v := 0) hx hb d_PR_fraction_43 (by decide) ?_
      have hr := Option.some.inj hf
      exact RET _ _ _ _ _ _ rfl (congrArg (fun r : Int32 => r) hr) rfl hP hD hS d_PR_fraction_44
  have B_8 : ∀  (n : Nat) (x0 : Int32) (x1 : Int32) (x2 : Int32) (x3 : Int32) (x4 : Int32) (x5 : Int32) (H : Heap) (locs : List Loc) (ls : Array Slot), va_P D classes [] H → va_D A [] → va_S A s.heap H locs → lv_has ls 7 [(0, .int x0), (1, .int x1), (2, .int x2), (3, .int x3), (4, .int x4), (5, .int x5)] → f_PR_fraction_8   n x0 x1 x2 x3 x4 x5 = some res → W p l e (rm_ 0 (40 * 0)) s m args below meth c H locs 0 0 Q (F0 m 8 ls []) := by
    intro  n
    induction n with
    | zero => intro x0 x1 x2 x3 x4 x5 H locs ls hP hD hS hl hf; exact nomatch hf
    | succ n ih =>
      intro x0 x1 x2 x3 x4 x5 H locs ls hP hD hS hl hf
      have hf : f_PR_fraction_8_b  (f_PR_fraction_8   n)  x0 x1 x2 x3 x4 x5 = some res := hf
      generalize f_PR_fraction_8   n = back_8 at ih hf
      have K_8 := ih
      unfold f_PR_fraction_8_b at hf
      refine lv_iload hx hb d_PR_fraction_8 (lv_at hl 5 rfl) ?_
      refine lv_bipush (v := 64) hx hb d_PR_fraction_10 (by decide) ?_
      refine lv_icmp_ge (tgt := 39) hx hb d_PR_fraction_12 (by decide) (fun c1 => ?_) (fun c1 => ?_)
      · have hf := o_pos c1 hf
        exact B_39 x0 x1 x2 x3 _ _ _ hP hD hS (lv_sub hl [0, 1, 2, 3] rfl) hf
      · have hf := o_neg c1 hf
        refine lv_iload hx hb d_PR_fraction_15 (lv_at hl 4 rfl) ?_
        refine lv_if_eq (tgt := 39) hx hb d_PR_fraction_17 (by decide) (fun c2 => ?_) (fun c2 => ?_)
        · have hf := o_pos c2 hf
          exact B_39 x0 x1 x2 x3 _ _ _ hP hD hS (lv_sub hl [0, 1, 2, 3] rfl) hf
        · have hf := o_neg c2 hf
          refine lv_iload_n hx hb d_PR_fraction_20 rfl (lv_at hl 3 rfl) ?_
          refine lv_iload hx hb d_PR_fraction_21 (lv_at hl 4 rfl) ?_
          obtain ⟨h3, hf⟩ := o_itn hf
          refine lv_irem hx hb d_PR_fraction_23 h3 ?_
          refine lv_istore (lv' := [(6, .int (rmI x3 x4)), (0, .int x0), (1, .int x1), (2, .int x2), (3, .int x3), (4, .int x4), (5, .int x5)]) hx hb d_PR_fraction_24 hl (by decide) rfl (fun ls hl => ?_)
          refine lv_iload hx hb d_PR_fraction_26 (lv_at hl 5 rfl) ?_
          refine lv_istore_n (lv' := [(3, .int x4), (6, .int (rmI x3 x4)), (0, .int x0), (1, .int x1), (2, .int x2), (4, .int x4), (5, .int x5)]) hx hb d_PR_fraction_28 rfl hl (by decide) rfl (fun ls hl => ?_)
          refine lv_iload hx hb d_PR_fraction_29 (lv_at hl 1 rfl) ?_
          refine lv_istore (lv' := [(4, .int (rmI x3 x4)), (3, .int x4), (6, .int (rmI x3 x4)), (0, .int x0), (1, .int x1), (2, .int x2), (5, .int x5)]) hx hb d_PR_fraction_31 hl (by decide) rfl (fun ls hl => ?_)
          refine lv_iinc (v := x5 + 1) (lv' := [(5, .int (x5 + 1)), (4, .int (rmI x3 x4)), (3, .int x4), (6, .int (rmI x3 x4)), (0, .int x0), (1, .int x1), (2, .int x2)]) hx hb d_PR_fraction_33 hl (k := 6) rfl (rfl) (by decide) rfl (fun ls hl => ?_)
          refine lv_goto (tgt := 8) hx hb d_PR_fraction_36 (by decide) ?_
          exact K_8 x0 x1 x2 x4 (rmI x3 x4) (x5 + 1) _ _ _ hP hD hS (lv_sub hl [4, 5, 6, 2, 1, 0] rfl) hf
  unfold f_PR_fraction at hf
  have E : ∀ (H : Heap) (locs : List Loc), va_P D classes [] H → va_S A s.heap H locs → W p l e (rm_ 0 (40 * 0)) s m args below meth c H locs 0 0 Q (F0 m 0 ls []) := by
    intro H locs hP hS
    refine lv_iload_n hx hb d_PR_fraction_0 rfl (lv_at hl 0 rfl) ?_
    refine lv_istore_n (lv' := [(3, .int i0), (0, .int i0), (1, .int i1), (2, .int i2)]) hx hb d_PR_fraction_1 rfl hl (by decide) rfl (fun ls hl => ?_)
    refine lv_iload_n hx hb d_PR_fraction_2 rfl (lv_at hl 2 rfl) ?_
    refine lv_istore (lv' := [(4, .int i1), (3, .int i0), (0, .int i0), (1, .int i1), (2, .int i2)]) hx hb d_PR_fraction_3 hl (by decide) rfl (fun ls hl => ?_)
    refine lv_iconst (v := 0) hx hb d_PR_fraction_5 (by decide) ?_
    refine lv_istore (lv' := [(5, .int 0), (4, .int i1), (3, .int i0), (0, .int i0), (1, .int i1), (2, .int i2)]) hx hb d_PR_fraction_6 hl (by decide) rfl (fun ls hl => ?_)
    exact B_8 300 i0 i1 i2 i0 i1 0 _ _ _ hP hD hS (lv_sub hl [3, 4, 5, 2, 1, 0] rfl) hf
  exact E _ _ hP hS
set_option maxHeartbeats 4000000 in
set_option maxRecDepth 100000 in
theorem c_PR_share (l : Launch) (D : va_G) (cI cZ : ClassId) (a_p0 a_hall a_hall_layers a_hall_kinds a_hall_wanted a_now a_now_off a_hand a_hand_shown z_text z_trial z_acts z_slots z_seen z_hall_patiences z_now_waited : Nat) (i1 : Int32) (i2 : Int32) (v_actCount : Int32) (v_slotsKept : Int32) (v_seed : Int64) (v_hall_count : Int32) (v_hall_layers : Nat → Int32) (v_hall_kinds : Nat → Int32) (v_hall_wanted : Nat → Int32) (v_now_nights : Int32) (v_now_off : Nat → Int32) (v_hand_shown : Nat → Int32) (res : Int32 × (Nat → Int32)) (hf : f_PR_share i1 i2 v_hall_count v_hall_layers v_hall_kinds v_hall_wanted v_now_off v_hand_shown = some res) : CtI l y_PR_share b_PR_share 6 (some .int) 4 D cI cZ [.ref a_p0, .int i1, .int i2] (cs_PR_share cI cZ a_p0 a_hall a_hall_layers a_hall_kinds a_hall_wanted a_now a_now_off a_hand a_hand_shown z_text z_trial z_acts z_slots z_seen z_hall_patiences z_now_waited v_actCount v_slotsKept v_seed v_hall_count v_hall_layers v_hall_kinds v_hall_wanted v_now_nights v_now_off v_hand_shown) res.1 (cs_PR_share cI cZ a_p0 a_hall a_hall_layers a_hall_kinds a_hall_wanted a_now a_now_off a_hand a_hand_shown z_text z_trial z_acts z_slots z_seen z_hall_patiences z_now_waited v_actCount v_slotsKept v_seed v_hall_count v_hall_layers v_hall_kinds v_hall_wanted v_now_nights v_now_off res.2) := by
  refine CtI_mk (by decide) (Nat.le_of_ble_eq_true rfl) ?_
  intro p e s m args below meth c A Q hC hA hP hD RET ls hl
  have hC : Cx p s m args meth c b_PR_share 6 R_PR D cI cZ := hC
  have hl : lv_has ls 6 [(0, .ref a_p0), (1, .int i1), (2, .int i2)] := hl
  obtain ⟨hx, hb, hml, hown, hts, hlk, hKK⟩ := id hC
  have hS : va_S A s.heap s.heap [] := va_S.rf
  have B_63 : ∀ (back_14 : Int32 → Int32 → Int32 → Int32 → (Nat → Int32) → Option (Int32 × (Nat → Int32))) (K_14 : ∀ (x1 : Int32) (x2 : Int32) (x3 : Int32) (x4 : Int32) (v_hand_shown : Nat → Int32) (H : Heap) (locs : List Loc) (ls : Array Slot), va_P D classes (cs_PR_share cI cZ a_p0 a_hall a_hall_layers a_hall_kinds a_hall_wanted a_now a_now_off a_hand a_hand_shown z_text z_trial z_acts z_slots z_seen z_hall_patiences z_now_waited v_actCount v_slotsKept v_seed v_hall_count v_hall_layers v_hall_kinds v_hall_wanted v_now_nights v_now_off v_hand_shown) H → va_D A (cs_PR_share cI cZ a_p0 a_hall a_hall_layers a_hall_kinds a_hall_wanted a_now a_now_off a_hand a_hand_shown z_text z_trial z_acts z_slots z_seen z_hall_patiences z_now_waited v_actCount v_slotsKept v_seed v_hall_count v_hall_layers v_hall_kinds v_hall_wanted v_now_nights v_now_off v_hand_shown) → va_S A s.heap H locs → lv_has ls 6 [(0, .ref a_p0), (1, .int x1), (2, .int x2), (3, .int x3), (4, .int x4)] → back_14 x1 x2 x3 x4 v_hand_shown = some res → W p l e (rm_ 4 (40 * 4)) s m args below meth c H locs 0 0 Q (F0 m 14 ls [])) (x1 : Int32) (x2 : Int32) (x3 : Int32) (x4 : Int32) (v_hand_shown : Nat → Int32) (H : Heap) (locs : List Loc) (ls : Array Slot), va_P D classes (cs_PR_share cI cZ a_p0 a_hall a_hall_layers a_hall_kinds a_hall_wanted a_now a_now_off a_hand a_hand_shown z_text z_trial z_acts z_slots z_seen z_hall_patiences z_now_waited v_actCount v_slotsKept v_seed v_hall_count v_hall_layers v_hall_kinds v_hall_wanted v_now_nights v_now_off v_hand_shown) H → va_D A (cs_PR_share cI cZ a_p0 a_hall a_hall_layers a_hall_kinds a_hall_wanted a_now a_now_off a_hand a_hand_shown z_text z_trial z_acts z_slots z_seen z_hall_patiences z_now_waited v_actCount v_slotsKept v_seed v_hall_count v_hall_layers v_hall_kinds v_hall_wanted v_now_nights v_now_off v_hand_shown) → va_S A s.heap H locs → lv_has ls 6 [(0, .ref a_p0), (1, .int x1), (2, .int x2), (3, .int x3), (4, .int x4)] → f_PR_share_63 back_14 v_hall_count v_hall_layers v_hall_kinds v_hall_wanted v_now_off x1 x2 x3 x4 v_hand_shown = some res → W p l e (rm_ 4 (40 * 4)) s m args below meth c H locs 0 0 Q (F0 m 63 ls []) := by
    intro back_14 K_14 x1 x2 x3 x4 v_hand_shown H locs ls hP hD hS hl hf
    unfold f_PR_share_63 at hf
    refine lv_iinc (v := x4 + 1) (lv' := [(4, .int (x4 + 1)), (0, .ref a_p0), (1, .int x1), (2, .int x2), (3, .int x3)]) hx hb d_PR_share_63 hl (k := 4) rfl (rfl) (by decide) rfl (fun ls hl => ?_)
    refine lv_goto (tgt := 14) hx hb d_PR_share_66 (by decide) ?_
    exact K_14 x1 x2 x3 (x4 + 1) v_hand_shown _ _ _ hP hD hS (lv_sub hl [1, 2, 3, 4, 0] rfl) hf
  have B_14 : ∀  (n : Nat) (x1 : Int32) (x2 : Int32) (x3 : Int32) (x4 : Int32) (v_hand_shown : Nat → Int32) (H : Heap) (locs : List Loc) (ls : Array Slot), va_P D classes (cs_PR_share cI cZ a_p0 a_hall a_hall_layers a_hall_kinds a_hall_wanted a_now a_now_off a_hand a_hand_shown z_text z_trial z_acts z_slots z_seen z_hall_patiences z_now_waited v_actCount v_slotsKept v_seed v_hall_count v_hall_layers v_hall_kinds v_hall_wanted v_now_nights v_now_off v_hand_shown) H → va_D A (cs_PR_share cI cZ a_p0 a_hall a_hall_layers a_hall_kinds a_hall_wanted a_now a_now_off a_hand a_hand_shown z_text z_trial z_acts z_slots z_seen z_hall_patiences z_now_waited v_actCount v_slotsKept v_seed v_hall_count v_hall_layers v_hall_kinds v_hall_wanted v_now_nights v_now_off v_hand_shown) → va_S A s.heap H locs → lv_has ls 6 [(0, .ref a_p0), (1, .int x1), (2, .int x2), (3, .int x3), (4, .int x4)] → f_PR_share_14  v_hall_count v_hall_layers v_hall_kinds v_hall_wanted v_now_off n x1 x2 x3 x4 v_hand_shown = some res → W p l e (rm_ 4 (40 * 4)) s m args below meth c H locs 0 0 Q (F0 m 14 ls []) := by
    intro  n
    induction n with
    | zero => intro x1 x2 x3 x4 v_hand_shown H locs ls hP hD hS hl hf; exact nomatch hf
    | succ n ih =>
      intro x1 x2 x3 x4 v_hand_shown H locs ls hP hD hS hl hf
      have hf : f_PR_share_14_b  (f_PR_share_14  v_hall_count v_hall_layers v_hall_kinds v_hall_wanted v_now_off n) v_hall_count v_hall_layers v_hall_kinds v_hall_wanted v_now_off x1 x2 x3 x4 v_hand_shown = some res := hf
      generalize f_PR_share_14  v_hall_count v_hall_layers v_hall_kinds v_hall_wanted v_now_off n = back_14 at ih hf
      have K_14 := ih
      unfold f_PR_share_14_b at hf
      refine lv_iload hx hb d_PR_share_14 (lv_at hl 4 rfl) ?_
      refine lv_bipush (v := 16) hx hb d_PR_share_16 (by decide) ?_
      refine lv_icmp_ge (tgt := 69) hx hb d_PR_share_18 (by decide) (fun c1 => ?_) (fun c1 => ?_)
      · have hf := o_pos c1 hf
        refine lv_iload_n hx hb d_PR_share_69 rfl (lv_at hl 3 rfl) ?_
        refine lv_bipush (v := 24) hx hb d_PR_share_70 (by decide) ?_
        refine lv_iload_n hx hb d_PR_share_72 rfl (lv_at hl 2 rfl) ?_
        obtain ⟨r2, h3, hf⟩ := o_bind hf
        refine cSi0 (rest := []) (c_PR_fraction l D cI cZ x3 24 x2 r2 h3) hC hA hP hD hS hl.1 cw_PR_208 ⟨Nat.le_of_ble_eq_true rfl, Nat.le_of_ble_eq_true rfl⟩ rfl rfl (Nat.le_of_ble_eq_true rfl) d_PR_share_73 ⟨Nat.zero_le _, Nat.zero_le _⟩ (fun H locs hP hS => ?_)
        have hr := Option.some.inj hf
        exact RET _ _ _ _ _ _ rfl (congrArg (fun r : Int32 × (Nat → Int32) => r.1) hr) (congrArg (fun r : Int32 × (Nat → Int32) => (cs_PR_share cI cZ a_p0 a_hall a_hall_layers a_hall_kinds a_hall_wanted a_now a_now_off a_hand a_hand_shown z_text z_trial z_acts z_slots z_seen z_hall_patiences z_now_waited v_actCount v_slotsKept v_seed v_hall_count v_hall_layers v_hall_kinds v_hall_wanted v_now_nights v_now_off r.2)) hr) hP hD hS d_PR_share_76
      · have hf := o_neg c1 hf
        refine lv_iload hx hb d_PR_share_21 (lv_at hl 4 rfl) ?_
        refine lv_iload_n hx hb d_PR_share_23 rfl (lv_at hl 1 rfl) ?_
        refine lv_ishr hx hb d_PR_share_24 ?_
        refine lv_iconst (v := 1) hx hb d_PR_share_25 (by decide) ?_
        refine lv_iand hx hb d_PR_share_26 ?_
        refine lv_if_ne (tgt := 63) hx hb d_PR_share_27 (by decide) (fun c4 => ?_) (fun c4 => ?_)
        · have hf := o_neg c4 hf
          exact B_63 back_14 K_14 x1 x2 x3 x4 v_hand_shown _ _ _ hP hD hS (lv_sub hl [0, 1, 2, 3, 4] rfl) hf
        · have hf := o_pos c4 hf
          refine lv_aload_n hx hb d_PR_share_30 rfl (lv_at hl 0 rfl) ?_
          refine lv_iload hx hb d_PR_share_31 (lv_at hl 4 rfl) ?_
          refine lv_iconst (v := 1) hx hb d_PR_share_33 (by decide) ?_
          refine lv_iload_n hx hb d_PR_share_34 rfl (lv_at hl 1 rfl) ?_
          refine lv_ishl hx hb d_PR_share_35 ?_
          refine lv_ior hx hb d_PR_share_36 ?_
          obtain ⟨r5, h6, hf⟩ := o_bind hf
          refine cVi (rest := []) (wr := []) (wn := (cs_PR_share cI cZ a_p0 a_hall a_hall_layers a_hall_kinds a_hall_wanted a_now a_now_off a_hand a_hand_shown z_text z_trial z_acts z_slots z_seen z_hall_patiences z_now_waited v_actCount v_slotsKept v_seed v_hall_count v_hall_layers v_hall_kinds v_hall_wanted v_now_nights v_now_off r5.2)) (c_PR_hailedWhenCome l D cI cZ a_p0 a_hall a_hall_layers a_hall_kinds a_hall_wanted a_now a_now_off a_hand a_hand_shown z_text z_trial z_acts z_slots z_seen z_hall_patiences z_now_waited (x4 ||| (slI 1 x1)) v_actCount v_slotsKept v_seed v_hall_count v_hall_layers v_hall_kinds v_hall_wanted v_now_nights v_now_off v_hand_shown r5 h6) hC hA hP hD hS hl.1 cw_PR_202 0 rfl rfl rfl ⟨Nat.le_of_ble_eq_true rfl, Nat.le_of_ble_eq_true rfl⟩ rfl rfl (Nat.le_of_ble_eq_true rfl) d_PR_share_37 ⟨Nat.zero_le _, Nat.zero_le _⟩ [0, 1, 2, 3, 4, 5, 6, 7, 8] [] [0, 1, 2, 3, 4, 5, 6, 7, 8] (by decide) (Cut_mk rfl rfl (by decide) (by decide) (by decide) rfl) (fun H locs hP hD hS => ?_)
          refine lv_aload_n hx hb d_PR_share_40 rfl (lv_at hl 0 rfl) ?_
          refine lv_iload hx hb d_PR_share_41 (lv_at hl 4 rfl) ?_
          obtain ⟨r7, h8, hf⟩ := o_bind hf
          refine cVi (rest := [.int r5.1]) (wr := []) (wn := (cs_PR_share cI cZ a_p0 a_hall a_hall_layers a_hall_kinds a_hall_wanted a_now a_now_off a_hand a_hand_shown z_text z_trial z_acts z_slots z_seen z_hall_patiences z_now_waited v_actCount v_slotsKept v_seed v_hall_count v_hall_layers v_hall_kinds v_hall_wanted v_now_nights v_now_off r7.2)) (c_PR_hailedWhenCome l D cI cZ a_p0 a_hall a_hall_layers a_hall_kinds a_hall_wanted a_now a_now_off a_hand a_hand_shown z_text z_trial z_acts z_slots z_seen z_hall_patiences z_now_waited x4 v_actCount v_slotsKept v_seed v_hall_count v_hall_layers v_hall_kinds v_hall_wanted v_now_nights v_now_off r5.2 r7 h8) hC hA hP hD hS hl.1 cw_PR_202 0 rfl rfl rfl ⟨Nat.le_of_ble_eq_true rfl, Nat.le_of_ble_eq_true rfl⟩ rfl rfl (Nat.le_of_ble_eq_true rfl) d_PR_share_43 ⟨Nat.zero_le _, Nat.zero_le _⟩ [0, 1, 2, 3, 4, 5, 6, 7, 8] [] [0, 1, 2, 3, 4, 5, 6, 7, 8] (by decide) (Cut_mk rfl rfl (by decide) (by decide) (by decide) rfl) (fun H locs hP hD hS => ?_)
          refine lv_isub hx hb d_PR_share_46 ?_
          refine lv_istore (lv' := [(5, .int (r5.1 - r7.1)), (0, .ref a_p0), (1, .int x1), (2, .int x2), (3, .int x3), (4, .int x4)]) hx hb d_PR_share_47 hl (by decide) rfl (fun ls hl => ?_)
          refine lv_iload_n hx hb d_PR_share_49 rfl (lv_at hl 4 rfl) ?_
          refine lv_iload hx hb d_PR_share_50 (lv_at hl 5 rfl) ?_
          obtain ⟨r9, h10, hf⟩ := o_bind hf
          refine cSi0 (rest := [.int x3]) (c_Int_bitCount l D cI cZ x4 r9 h10) hC hA hP hD hS hl.1 cw_PR_141 ⟨Nat.le_of_ble_eq_true rfl, Nat.le_of_ble_eq_true rfl⟩ rfl rfl (Nat.le_of_ble_eq_true rfl) d_PR_share_52 ⟨Nat.zero_le _, Nat.zero_le _⟩ (fun H locs hP hS => ?_)
          obtain ⟨r11, h12, hf⟩ := o_bind hf
          refine cSi0 (rest := [.int x3]) (c_PR_ordersBehind l D cI cZ r9 r11 h12) hC hA hP hD hS hl.1 cw_PR_205 ⟨Nat.le_of_ble_eq_true rfl, Nat.le_of_ble_eq_true rfl⟩ rfl rfl (Nat.le_of_ble_eq_true rfl) d_PR_share_55 ⟨Nat.zero_le _, Nat.zero_le _⟩ (fun H locs hP hS => ?_)
          refine lv_iload hx hb d_PR_share_58 (lv_at hl 0 rfl) ?_
          refine lv_imul hx hb d_PR_share_60 ?_
          refine lv_iadd hx hb d_PR_share_61 ?_
          refine lv_istore_n (lv' := [(3, .int (x3 + (r11 * (r5.1 - r7.1)))), (5, .int (r5.1 - r7.1)), (0, .ref a_p0), (1, .int x1), (2, .int x2), (4, .int x4)]) hx hb d_PR_share_62 rfl hl (by decide) rfl (fun ls hl => ?_)
          exact B_63 back_14 K_14 x1 x2 (x3 + (r11 * (r5.1 - r7.1))) x4 r7.2 _ _ _ hP hD hS (lv_sub hl [2, 3, 4, 0, 5] rfl) hf
  unfold f_PR_share at hf
  have E : ∀ (H : Heap) (locs : List Loc), va_P D classes (cs_PR_share cI cZ a_p0 a_hall a_hall_layers a_hall_kinds a_hall_wanted a_now a_now_off a_hand a_hand_shown z_text z_trial z_acts z_slots z_seen z_hall_patiences z_now_waited v_actCount v_slotsKept v_seed v_hall_count v_hall_layers v_hall_kinds v_hall_wanted v_now_nights v_now_off v_hand_shown) H → va_S A s.heap H locs → W p l e (rm_ 4 (40 * 4)) s m args below meth c H locs 0 0 Q (F0 m 0 ls []) := by
    intro H locs hP hS
    refine lv_iload_n hx hb d_PR_share_0 rfl (lv_at hl 1 rfl) ?_
    obtain ⟨r1, h2, hf⟩ := o_bind hf
    refine cSi0 (rest := []) (c_PR_isFinger l D cI cZ i1 r1 h2) hC hA hP hD hS hl.1 cw_PR_105 ⟨Nat.le_of_ble_eq_true rfl, Nat.le_of_ble_eq_true rfl⟩ rfl rfl (Nat.le_of_ble_eq_true rfl) d_PR_share_1 ⟨Nat.zero_le _, Nat.zero_le _⟩ (fun H locs hP hS => ?_)
    refine lv_if_ne (tgt := 9) hx hb d_PR_share_4 (by decide) (fun c3 => ?_) (fun c3 => ?_)
    · have hf := o_neg c3 hf
      refine lv_iconst (v := 0) hx hb d_PR_share_9 (by decide) ?_
      refine lv_istore_n (lv' := [(3, .int 0), (0, .ref a_p0), (1, .int i1), (2, .int i2)]) hx hb d_PR_share_10 rfl hl (by decide) rfl (fun ls hl => ?_)
      refine lv_iconst (v := 0) hx hb d_PR_share_11 (by decide) ?_
      refine lv_istore (lv' := [(4, .int 0), (3, .int 0), (0, .ref a_p0), (1, .int i1), (2, .int i2)]) hx hb d_PR_share_12 hl (by decide) rfl (fun ls hl => ?_)
      exact B_14 300 i1 i2 0 0 v_hand_shown _ _ _ hP hD hS (lv_sub hl [2, 3, 4, 1, 0] rfl) hf
    · have hf := o_pos c3 hf
      refine lv_iconst (v := (-1)) hx hb d_PR_share_7 (by decide) ?_
      have hr := Option.some.inj hf
      exact RET _ _ _ _ _ _ rfl (congrArg (fun r : Int32 × (Nat → Int32) => r.1) hr) (congrArg (fun r : Int32 × (Nat → Int32) => (cs_PR_share cI cZ a_p0 a_hall a_hall_layers a_hall_kinds a_hall_wanted a_now a_now_off a_hand a_hand_shown z_text z_trial z_acts z_slots z_seen z_hall_patiences z_now_waited v_actCount v_slotsKept v_seed v_hall_count v_hall_layers v_hall_kinds v_hall_wanted v_now_nights v_now_off r.2)) hr) hP hD hS d_PR_share_8
  exact E _ _ hP hS
set_option maxHeartbeats 4000000 in
set_option maxRecDepth 100000 in
theorem c_PR_see (l : Launch) (D : va_G) (cI cZ : ClassId) (a_p0 a_hall a_seen a_seen_rows z_text z_now z_trial z_hand z_acts z_slots z_hall_layers z_hall_kinds z_hall_patiences z_hall_wanted : Nat) (i1 : Int32) (i2 : Int32) (i3 : Int32) (i4 : Int32) (v_actCount : Int32) (v_slotsKept : Int32) (v_seed : Int64) (v_hall_count : Int32) (v_seen_count : Int32) (v_seen_rows : Nat → Int32) (res : Int32 × Int32 × (Nat → Int32)) (hf : f_PR_see i1 i2 i3 i4 v_hall_count v_seen_count v_seen_rows = some res) : CtI l y_PR_see b_PR_see 5 (some .int) 1 D cI cZ [.ref a_p0, .int i1, .int i2, .int i3, .int i4] (cs_PR_see cI cZ a_p0 a_hall a_seen a_seen_rows z_text z_now z_trial z_hand z_acts z_slots z_hall_layers z_hall_kinds z_hall_patiences z_hall_wanted v_actCount v_slotsKept v_seed v_hall_count v_seen_count v_seen_rows) res.1 (cs_PR_see cI cZ a_p0 a_hall a_seen a_seen_rows z_text z_now z_trial z_hand z_acts z_slots z_hall_layers z_hall_kinds z_hall_patiences z_hall_wanted v_actCount v_slotsKept v_seed v_hall_count res.2.1 res.2.2) := by
  refine CtI_mk (by decide) (Nat.le_of_ble_eq_true rfl) ?_
  intro p e s m args below meth c A Q hC hA hP hD RET ls hl
  have hC : Cx p s m args meth c b_PR_see 5 R_PR D cI cZ := hC
  have hl : lv_has ls 5 [(0, .ref a_p0), (1, .int i1), (2, .int i2), (3, .int i3), (4, .int i4)] := hl
  obtain ⟨hx, hb, hml, hown, hts, hlk, hKK⟩ := id hC
  have hS : va_S A s.heap s.heap [] := va_S.rf
  have B_18 : ∀  (v_seen_count : Int32) (v_seen_rows : Nat → Int32) (H : Heap) (locs : List Loc) (ls : Array Slot), va_P D classes (cs_PR_see cI cZ a_p0 a_hall a_seen a_seen_rows z_text z_now z_trial z_hand z_acts z_slots z_hall_layers z_hall_kinds z_hall_patiences z_hall_wanted v_actCount v_slotsKept v_seed v_hall_count v_seen_count v_seen_rows) H → va_D A (cs_PR_see cI cZ a_p0 a_hall a_seen a_seen_rows z_text z_now z_trial z_hand z_acts z_slots z_hall_layers z_hall_kinds z_hall_patiences z_hall_wanted v_actCount v_slotsKept v_seed v_hall_count v_seen_count v_seen_rows) → va_S A s.heap H locs → lv_has ls 5 [] → f_PR_see_18  v_hall_count v_seen_count v_seen_rows = some res → W p l e (rm_ 1 (40 * 1)) s m args below meth c H locs 0 0 Q (F0 m 18 ls []) := by
    intro  v_seen_count v_seen_rows H locs ls hP hD hS hl hf
    unfold f_PR_see_18 at hf
    refine lv_iconst (v := (-1)) hx hb d_PR_see_18 (by decide) ?_
    have hr := Option.some.inj hf
    exact RET _ _ _ _ _ _ rfl (congrArg (fun r : Int32 × Int32 × (Nat → Int32) => r.1) hr) (congrArg (fun r : Int32 × Int32 × (Nat → Int32) => (cs_PR_see cI cZ a_p0 a_hall a_seen a_seen_rows z_text z_now z_trial z_hand z_acts z_slots z_hall_layers z_hall_kinds z_hall_patiences z_hall_wanted v_actCount v_slotsKept v_seed v_hall_count r.2.1 r.2.2)) hr) hP hD hS d_PR_see_19
  have B_40 : ∀  (v_seen_count : Int32) (v_seen_rows : Nat → Int32) (H : Heap) (locs : List Loc) (ls : Array Slot), va_P D classes (cs_PR_see cI cZ a_p0 a_hall a_seen a_seen_rows z_text z_now z_trial z_hand z_acts z_slots z_hall_layers z_hall_kinds z_hall_patiences z_hall_wanted v_actCount v_slotsKept v_seed v_hall_count v_seen_count v_seen_rows) H → va_D A (cs_PR_see cI cZ a_p0 a_hall a_seen a_seen_rows z_text z_now z_trial z_hand z_acts z_slots z_hall_layers z_hall_kinds z_hall_patiences z_hall_wanted v_actCount v_slotsKept v_seed v_hall_count v_seen_count v_seen_rows) → va_S A s.heap H locs → lv_has ls 5 [] → f_PR_see_40  v_hall_count v_seen_count v_seen_rows = some res → W p l e (rm_ 1 (40 * 1)) s m args below meth c H locs 0 0 Q (F0 m 40 ls []) := by
    intro  v_seen_count v_seen_rows H locs ls hP hD hS hl hf
    unfold f_PR_see_40 at hf
    refine lv_bipush (v := (-2)) hx hb d_PR_see_40 (by decide) ?_
    have hr := Option.some.inj hf
    exact RET _ _ _ _ _ _ rfl (congrArg (fun r : Int32 × Int32 × (Nat → Int32) => r.1) hr) (congrArg (fun r : Int32 × Int32 × (Nat → Int32) => (cs_PR_see cI cZ a_p0 a_hall a_seen a_seen_rows z_text z_now z_trial z_hand z_acts z_slots z_hall_layers z_hall_kinds z_hall_patiences z_hall_wanted v_actCount v_slotsKept v_seed v_hall_count r.2.1 r.2.2)) hr) hP hD hS d_PR_see_42
  have B_70 : ∀  (w0 : Int32) (v_seen_count : Int32) (v_seen_rows : Nat → Int32) (H : Heap) (locs : List Loc) (ls : Array Slot), va_P D classes (cs_PR_see cI cZ a_p0 a_hall a_seen a_seen_rows z_text z_now z_trial z_hand z_acts z_slots z_hall_layers z_hall_kinds z_hall_patiences z_hall_wanted v_actCount v_slotsKept v_seed v_hall_count v_seen_count v_seen_rows) H → va_D A (cs_PR_see cI cZ a_p0 a_hall a_seen a_seen_rows z_text z_now z_trial z_hand z_acts z_slots z_hall_layers z_hall_kinds z_hall_patiences z_hall_wanted v_actCount v_slotsKept v_seed v_hall_count v_seen_count v_seen_rows) → va_S A s.heap H locs → lv_has ls 5 [] → f_PR_see_70  v_hall_count w0 v_seen_count v_seen_rows = some res → W p l e (rm_ 1 (40 * 1)) s m args below meth c H locs 0 0 Q (F0 m 70 ls [.int w0]) := by
    intro  w0 v_seen_count v_seen_rows H locs ls hP hD hS hl hf
    unfold f_PR_see_70 at hf
    have hr := Option.some.inj hf
    exact RET _ _ _ _ _ _ rfl (congrArg (fun r : Int32 × Int32 × (Nat → Int32) => r.1) hr) (congrArg (fun r : Int32 × Int32 × (Nat → Int32) => (cs_PR_see cI cZ a_p0 a_hall a_seen a_seen_rows z_text z_now z_trial z_hand z_acts z_slots z_hall_layers z_hall_kinds z_hall_patiences z_hall_wanted v_actCount v_slotsKept v_seed v_hall_count r.2.1 r.2.2)) hr) hP hD hS d_PR_see_70
  unfold f_PR_see at hf
  have E : ∀ (H : Heap) (locs : List Loc), va_P D classes (cs_PR_see cI cZ a_p0 a_hall a_seen a_seen_rows z_text z_now z_trial z_hand z_acts z_slots z_hall_layers z_hall_kinds z_hall_patiences z_hall_wanted v_actCount v_slotsKept v_seed v_hall_count v_seen_count v_seen_rows) H → va_S A s.heap H locs → W p l e (rm_ 1 (40 * 1)) s m args below meth c H locs 0 0 Q (F0 m 0 ls []) := by
    intro H locs hP hS
    refine lv_aload_n hx hb d_PR_see_0 rfl (lv_at hl 0 rfl) ?_
    refine gf_PR_19 hC hP 0 rfl rfl d_PR_see_1 ?_
    refine lv_iload_n hx hb d_PR_see_4 rfl (lv_at hl 1 rfl) ?_
    obtain ⟨r1, h2, hf⟩ := o_bind hf
    refine cVi (rest := []) (wr := [(a_p0, .inr (6, [.ref z_text, .ref a_hall, .ref z_now, .ref z_trial, .ref z_hand, .ref z_acts, .ref z_slots, .ref a_seen, .int v_actCount, .int v_slotsKept, .long v_seed])), (a_seen, .inr (3, [.ref a_seen_rows, .int v_seen_count])), (a_seen_rows, .inl (cI, 24, .inl v_seen_rows))]) (wn := (cs_PR_see cI cZ a_p0 a_hall a_seen a_seen_rows z_text z_now z_trial z_hand z_acts z_slots z_hall_layers z_hall_kinds z_hall_patiences z_hall_wanted v_actCount v_slotsKept v_seed v_hall_count v_seen_count v_seen_rows)) (c_Hall_has l D cI cZ a_hall z_hall_layers z_hall_kinds z_hall_patiences z_hall_wanted i1 v_hall_count r1 h2) hC hA hP hD hS hl.1 cw_PR_119 1 rfl rfl rfl ⟨Nat.le_of_ble_eq_true rfl, Nat.le_of_ble_eq_true rfl⟩ rfl rfl (Nat.le_of_ble_eq_true rfl) d_PR_see_5 ⟨Nat.zero_le _, Nat.zero_le _⟩ [1] [0, 2, 3] [0, 3, 1, 2] (by decide) (Cut_mk rfl rfl (by decide) (by decide) (by decide) rfl) (fun H locs hP hD hS => ?_)
    refine lv_if_eq (tgt := 18) hx hb d_PR_see_8 (by decide) (fun c3 => ?_) (fun c3 => ?_)
    · have hf := o_pos c3 hf
      exact B_18 v_seen_count v_seen_rows _ _ _ hP hD hS (lv_sub hl [] rfl) hf
    · have hf := o_neg c3 hf
      refine lv_iload_n hx hb d_PR_see_11 rfl (lv_at hl 2 rfl) ?_
      obtain ⟨r4, h5, hf⟩ := o_bind hf
      refine cSi0 (rest := []) (c_PR_isFinger l D cI cZ i2 r4 h5) hC hA hP hD hS hl.1 cw_PR_105 ⟨Nat.le_of_ble_eq_true rfl, Nat.le_of_ble_eq_true rfl⟩ rfl rfl (Nat.le_of_ble_eq_true rfl) d_PR_see_12 ⟨Nat.zero_le _, Nat.zero_le _⟩ (fun H locs hP hS => ?_)
      refine lv_if_ne (tgt := 20) hx hb d_PR_see_15 (by decide) (fun c6 => ?_) (fun c6 => ?_)
      · have hf := o_neg c6 hf
        refine lv_iload_n hx hb d_PR_see_20 rfl (lv_at hl 3 rfl) ?_
        refine lv_if_lt (tgt := 40) hx hb d_PR_see_21 (by decide) (fun c7 => ?_) (fun c7 => ?_)
        · have hf := o_pos c7 hf
          exact B_40 v_seen_count v_seen_rows _ _ _ hP hD hS (lv_sub hl [] rfl) hf
        · have hf := o_neg c7 hf
          refine lv_iload_n hx hb d_PR_see_24 rfl (lv_at hl 3 rfl) ?_
          refine lv_iconst (v := 2) hx hb d_PR_see_25 (by decide) ?_
          refine lv_icmp_gt (tgt := 40) hx hb d_PR_see_26 (by decide) (fun c8 => ?_) (fun c8 => ?_)
          · have hf := o_pos c8 hf
            exact B_40 v_seen_count v_seen_rows _ _ _ hP hD hS (lv_sub hl [] rfl) hf
          · have hf := o_neg c8 hf
            refine lv_iload hx hb d_PR_see_29 (lv_at hl 4 rfl) ?_
            refine lv_if_lt (tgt := 40) hx hb d_PR_see_31 (by decide) (fun c9 => ?_) (fun c9 => ?_)
            · have hf := o_pos c9 hf
              exact B_40 v_seen_count v_seen_rows _ _ _ hP hD hS (lv_sub hl [] rfl) hf
            · have hf := o_neg c9 hf
              refine lv_iload hx hb d_PR_see_34 (lv_at hl 4 rfl) ?_
              refine lv_iconst (v := 1) hx hb d_PR_see_36 (by decide) ?_
              refine lv_icmp_le (tgt := 43) hx hb d_PR_see_37 (by decide) (fun c10 => ?_) (fun c10 => ?_)
              · have hf := o_pos c10 hf
                refine lv_aload_n hx hb d_PR_see_43 rfl (lv_at hl 0 rfl) ?_
                refine gf_PR_55 hC hP 0 rfl rfl d_PR_see_44 ?_
                refine lv_iload_n hx hb d_PR_see_47 rfl (lv_at hl 1 rfl) ?_
                refine lv_iload_n hx hb d_PR_see_48 rfl (lv_at hl 2 rfl) ?_
                refine lv_iload_n hx hb d_PR_see_49 rfl (lv_at hl 3 rfl) ?_
                refine lv_iload hx hb d_PR_see_50 (lv_at hl 4 rfl) ?_
                obtain ⟨r11, h12, hf⟩ := o_bind hf
                refine cVi (rest := []) (wr := [(a_p0, .inr (6, [.ref z_text, .ref a_hall, .ref z_now, .ref z_trial, .ref z_hand, .ref z_acts, .ref z_slots, .ref a_seen, .int v_actCount, .int v_slotsKept, .long v_seed])), (a_hall, .inr (0, [.ref z_hall_layers, .ref z_hall_kinds, .ref z_hall_patiences, .ref z_hall_wanted, .int v_hall_count]))]) (wn := (cs_PR_see cI cZ a_p0 a_hall a_seen a_seen_rows z_text z_now z_trial z_hand z_acts z_slots z_hall_layers z_hall_kinds z_hall_patiences z_hall_wanted v_actCount v_slotsKept v_seed v_hall_count r11.2.1 r11.2.2)) (c_Seen_add l D cI cZ a_seen a_seen_rows i1 i2 i3 i4 v_seen_count v_seen_rows r11 h12) hC hA hP hD hS hl.1 cw_PR_212 2 rfl rfl rfl ⟨Nat.le_of_ble_eq_true rfl, Nat.le_of_ble_eq_true rfl⟩ rfl rfl (Nat.le_of_ble_eq_true rfl) d_PR_see_52 ⟨Nat.zero_le _, Nat.zero_le _⟩ [2, 3] [0, 1] [0, 1, 2, 3] (by decide) (Cut_mk rfl rfl (by decide) (by decide) (by decide) rfl) (fun H locs hP hD hS => ?_)
                refine lv_if_eq (tgt := 68) hx hb d_PR_see_55 (by decide) (fun c13 => ?_) (fun c13 => ?_)
                · have hf := o_pos c13 hf
                  refine lv_bipush (v := (-4)) hx hb d_PR_see_68 (by decide) ?_
                  exact B_70 ((-4)) r11.2.1 r11.2.2 _ _ _ hP hD hS (lv_sub hl [] rfl) hf
                · have hf := o_neg c13 hf
                  refine lv_aload_n hx hb d_PR_see_58 rfl (lv_at hl 0 rfl) ?_
                  refine gf_PR_55 hC hP 0 rfl rfl d_PR_see_59 ?_
                  refine gf_PR_104 hC hP 2 rfl rfl d_PR_see_62 ?_
                  refine lv_goto (tgt := 70) hx hb d_PR_see_65 (by decide) ?_
                  exact B_70 r11.2.1 r11.2.1 r11.2.2 _ _ _ hP hD hS (lv_sub hl [] rfl) hf
              · have hf := o_neg c10 hf
                exact B_40 v_seen_count v_seen_rows _ _ _ hP hD hS (lv_sub hl [] rfl) hf
      · have hf := o_pos c6 hf
        exact B_18 v_seen_count v_seen_rows _ _ _ hP hD hS (lv_sub hl [] rfl) hf
  exact E _ _ hP hS
set_option maxHeartbeats 4000000 in
set_option maxRecDepth 100000 in
theorem c_PR_unsee (l : Launch) (D : va_G) (cI cZ : ClassId) (a_p0 a_seen z_text z_hall z_now z_trial z_hand z_acts z_slots z_seen_rows : Nat) (v_actCount : Int32) (v_slotsKept : Int32) (v_seed : Int64) (v_seen_count : Int32) (res : Int32 × Int32) (hf : f_PR_unsee v_seen_count = some res) : CtI l y_PR_unsee b_PR_unsee 2 (some .int) 0 D cI cZ [.ref a_p0] (cs_PR_unsee cI cZ a_p0 a_seen z_text z_hall z_now z_trial z_hand z_acts z_slots z_seen_rows v_actCount v_slotsKept v_seed v_seen_count) res.1 (cs_PR_unsee cI cZ a_p0 a_seen z_text z_hall z_now z_trial z_hand z_acts z_slots z_seen_rows v_actCount v_slotsKept v_seed res.2) := by
  refine CtI_mk (by decide) (Nat.le_of_ble_eq_true rfl) ?_
  intro p e s m args below meth c A Q hC hA hP hD RET ls hl
  have hC : Cx p s m args meth c b_PR_unsee 2 R_PR D cI cZ := hC
  have hl : lv_has ls 2 [(0, .ref a_p0)] := hl
  obtain ⟨hx, hb, hml, hown, hts, hlk, hKK⟩ := id hC
  have hS : va_S A s.heap s.heap [] := va_S.rf
  unfold f_PR_unsee at hf
  have E : ∀ (H : Heap) (locs : List Loc), va_P D classes (cs_PR_unsee cI cZ a_p0 a_seen z_text z_hall z_now z_trial z_hand z_acts z_slots z_seen_rows v_actCount v_slotsKept v_seed v_seen_count) H → va_S A s.heap H locs → W p l e (rm_ 0 (40 * 0)) s m args below meth c H locs 0 0 Q (F0 m 0 ls []) := by
    intro H locs hP hS
    refine lv_aload_n hx hb d_PR_unsee_0 rfl (lv_at hl 0 rfl) ?_
    refine gf_PR_55 hC hP 0 rfl rfl d_PR_unsee_1 ?_
    refine gf_PR_104 hC hP 1 rfl rfl d_PR_unsee_4 ?_
    refine lv_istore_n (lv' := [(1, .int v_seen_count), (0, .ref a_p0)]) hx hb d_PR_unsee_7 rfl hl (by decide) rfl (fun ls hl => ?_)
    refine lv_aload_n hx hb d_PR_unsee_8 rfl (lv_at hl 1 rfl) ?_
    refine gf_PR_55 hC hP 0 rfl rfl d_PR_unsee_9 ?_
    refine lv_iconst (v := 0) hx hb d_PR_unsee_12 (by decide) ?_
    refine pf_PR_104 hC hP hD hS 1 rfl (Nat.le_of_ble_eq_true rfl) d_PR_unsee_13 (fun H locs hP hD hS => ?_)
    have hP : va_P D classes (cs_PR_unsee cI cZ a_p0 a_seen z_text z_hall z_now z_trial z_hand z_acts z_slots z_seen_rows v_actCount v_slotsKept v_seed 0) H := hP
    have hD : va_D A (cs_PR_unsee cI cZ a_p0 a_seen z_text z_hall z_now z_trial z_hand z_acts z_slots z_seen_rows v_actCount v_slotsKept v_seed 0) := hD
    refine lv_iload_n hx hb d_PR_unsee_16 rfl (lv_at hl 0 rfl) ?_
    have hr := Option.some.inj hf
    exact RET _ _ _ _ _ _ rfl (congrArg (fun r : Int32 × Int32 => r.1) hr) (congrArg (fun r : Int32 × Int32 => (cs_PR_unsee cI cZ a_p0 a_seen z_text z_hall z_now z_trial z_hand z_acts z_slots z_seen_rows v_actCount v_slotsKept v_seed r.2)) hr) hP hD hS d_PR_unsee_17
  exact E _ _ hP hS
set_option maxHeartbeats 4000000 in
set_option maxRecDepth 100000 in
theorem c_PR_layerOfRow (l : Launch) (D : va_G) (cI cZ : ClassId) (i0 : Int32) (i1 : Int32) (res : Int32) (hf : f_PR_layerOfRow i0 i1 = some res) : CtI l y_PR_layerOfRow b_PR_layerOfRow 2 (some .int) 0 D cI cZ [.int i0, .int i1] [] res [] := by
  refine CtI_mk (by decide) (Nat.le_of_ble_eq_true rfl) ?_
  intro p e s m args below meth c A Q hC hA hP hD RET ls hl
  have hC : Cx p s m args meth c b_PR_layerOfRow 2 R_PR D cI cZ := hC
  have hl : lv_has ls 2 [(0, .int i0), (1, .int i1)] := hl
  obtain ⟨hx, hb, hml, hown, hts, hlk, hKK⟩ := id hC
  have hS : va_S A s.heap s.heap [] := va_S.rf
  have B_25 : ∀  (w0 : Int32) (H : Heap) (locs : List Loc) (ls : Array Slot), va_P D classes [] H → va_D A [] → va_S A s.heap H locs → lv_has ls 2 [] → f_PR_layerOfRow_25   w0 = some res → W p l e (rm_ 0 (40 * 0)) s m args below meth c H locs 0 0 Q (F0 m 25 ls [.int w0]) := by
    intro  w0 H locs ls hP hD hS hl hf
    unfold f_PR_layerOfRow_25 at hf
    have hr := Option.some.inj hf
    exact RET _ _ _ _ _ _ rfl (congrArg (fun r : Int32 => r) hr) rfl hP hD hS d_PR_layerOfRow_25
  unfold f_PR_layerOfRow at hf
  have E : ∀ (H : Heap) (locs : List Loc), va_P D classes [] H → va_S A s.heap H locs → W p l e (rm_ 0 (40 * 0)) s m args below meth c H locs 0 0 Q (F0 m 0 ls []) := by
    intro H locs hP hS
    refine lv_iload_n hx hb d_PR_layerOfRow_0 rfl (lv_at hl 1 rfl) ?_
    refine lv_if_ne (tgt := 9) hx hb d_PR_layerOfRow_1 (by decide) (fun c1 => ?_) (fun c1 => ?_)
    · have hf := o_neg c1 hf
      refine lv_iload_n hx hb d_PR_layerOfRow_9 rfl (lv_at hl 1 rfl) ?_
      refine lv_iconst (v := 1) hx hb d_PR_layerOfRow_10 (by decide) ?_
      refine lv_icmp_ne (tgt := 22) hx hb d_PR_layerOfRow_11 (by decide) (fun c2 => ?_) (fun c2 => ?_)
      · have hf := o_neg c2 hf
        refine lv_iload_n hx hb d_PR_layerOfRow_22 rfl (lv_at hl 0 rfl) ?_
        refine lv_iconst (v := 3) hx hb d_PR_layerOfRow_23 (by decide) ?_
        refine lv_irem hx hb d_PR_layerOfRow_24 (by decide) ?_
        exact B_25 (rmI i0 3) _ _ _ hP hD hS (lv_sub hl [] rfl) hf
      · have hf := o_pos c2 hf
        refine lv_iload_n hx hb d_PR_layerOfRow_14 rfl (lv_at hl 0 rfl) ?_
        refine lv_iconst (v := 3) hx hb d_PR_layerOfRow_15 (by decide) ?_
        refine lv_idiv hx hb d_PR_layerOfRow_16 (by decide) ?_
        refine lv_iconst (v := 3) hx hb d_PR_layerOfRow_17 (by decide) ?_
        refine lv_irem hx hb d_PR_layerOfRow_18 (by decide) ?_
        refine lv_goto (tgt := 25) hx hb d_PR_layerOfRow_19 (by decide) ?_
        exact B_25 (rmI (i0 / 3) 3) _ _ _ hP hD hS (lv_sub hl [] rfl) hf
    · have hf := o_pos c1 hf
      refine lv_iload_n hx hb d_PR_layerOfRow_4 rfl (lv_at hl 0 rfl) ?_
      refine lv_bipush (v := 9) hx hb d_PR_layerOfRow_5 (by decide) ?_
      refine lv_idiv hx hb d_PR_layerOfRow_7 (by decide) ?_
      have hr := Option.some.inj hf
      exact RET _ _ _ _ _ _ rfl (congrArg (fun r : Int32 => r) hr) rfl hP hD hS d_PR_layerOfRow_8
  exact E _ _ hP hS
set_option maxHeartbeats 4000000 in
set_option maxRecDepth 100000 in
theorem c_PR_isAsSeen (l : Launch) (D : va_G) (cI cZ : ClassId) (a_p0 a_hall a_hall_layers a_hall_kinds a_hall_wanted a_now a_now_off a_hand a_hand_shown a_seen a_seen_rows z_text z_trial z_acts z_slots z_hall_patiences z_now_waited : Nat) (i1 : Int32) (i2 : Int32) (v_actCount : Int32) (v_slotsKept : Int32) (v_seed : Int64) (v_hall_count : Int32) (v_hall_layers : Nat → Int32) (v_hall_kinds : Nat → Int32) (v_hall_wanted : Nat → Int32) (v_now_nights : Int32) (v_now_off : Nat → Int32) (v_hand_shown : Nat → Int32) (v_seen_count : Int32) (v_seen_rows : Nat → Int32) (res : Int32 × (Nat → Int32)) (hf : f_PR_isAsSeen i1 i2 v_hall_count v_hall_layers v_hall_kinds v_hall_wanted v_now_off v_seen_count v_seen_rows v_hand_shown = some res) : CtI l y_PR_isAsSeen b_PR_isAsSeen 5 (some .boolean) 3 D cI cZ [.ref a_p0, .int i1, .int i2] (cs_PR_isAsSeen cI cZ a_p0 a_hall a_hall_layers a_hall_kinds a_hall_wanted a_now a_now_off a_hand a_hand_shown a_seen a_seen_rows z_text z_trial z_acts z_slots z_hall_patiences z_now_waited v_actCount v_slotsKept v_seed v_hall_count v_hall_layers v_hall_kinds v_hall_wanted v_now_nights v_now_off v_hand_shown v_seen_count v_seen_rows) res.1 (cs_PR_isAsSeen cI cZ a_p0 a_hall a_hall_layers a_hall_kinds a_hall_wanted a_now a_now_off a_hand a_hand_shown a_seen a_seen_rows z_text z_trial z_acts z_slots z_hall_patiences z_now_waited v_actCount v_slotsKept v_seed v_hall_count v_hall_layers v_hall_kinds v_hall_wanted v_now_nights v_now_off res.2 v_seen_count v_seen_rows) := by
  refine CtI_mk (by decide) (Nat.le_of_ble_eq_true rfl) ?_
  intro p e s m args below meth c A Q hC hA hP hD RET ls hl
  have hC : Cx p s m args meth c b_PR_isAsSeen 5 R_PR D cI cZ := hC
  have hl : lv_has ls 5 [(0, .ref a_p0), (1, .int i1), (2, .int i2)] := hl
  obtain ⟨hx, hb, hml, hown, hts, hlk, hKK⟩ := id hC
  have hS : va_S A s.heap s.heap [] := va_S.rf
  have B_124 : ∀ (back_17 : Int32 → Int32 → Int32 → (Nat → Int32) → Option (Int32 × (Nat → Int32))) (K_17 : ∀ (x1 : Int32) (x2 : Int32) (x3 : Int32) (v_hand_shown : Nat → Int32) (H : Heap) (locs : List Loc) (ls : Array Slot), va_P D classes (cs_PR_isAsSeen cI cZ a_p0 a_hall a_hall_layers a_hall_kinds a_hall_wanted a_now a_now_off a_hand a_hand_shown a_seen a_seen_rows z_text z_trial z_acts z_slots z_hall_patiences z_now_waited v_actCount v_slotsKept v_seed v_hall_count v_hall_layers v_hall_kinds v_hall_wanted v_now_nights v_now_off v_hand_shown v_seen_count v_seen_rows) H → va_D A (cs_PR_isAsSeen cI cZ a_p0 a_hall a_hall_layers a_hall_kinds a_hall_wanted a_now a_now_off a_hand a_hand_shown a_seen a_seen_rows z_text z_trial z_acts z_slots z_hall_patiences z_now_waited v_actCount v_slotsKept v_seed v_hall_count v_hall_layers v_hall_kinds v_hall_wanted v_now_nights v_now_off v_hand_shown v_seen_count v_seen_rows) → va_S A s.heap H locs → lv_has ls 5 [(0, .ref a_p0), (1, .int x1), (2, .int x2), (3, .int x3)] → back_17 x1 x2 x3 v_hand_shown = some res → W p l e (rm_ 3 (40 * 3)) s m args below meth c H locs 0 0 Q (F0 m 17 ls [])) (x1 : Int32) (x2 : Int32) (x3 : Int32) (v_hand_shown : Nat → Int32) (H : Heap) (locs : List Loc) (ls : Array Slot), va_P D classes (cs_PR_isAsSeen cI cZ a_p0 a_hall a_hall_layers a_hall_kinds a_hall_wanted a_now a_now_off a_hand a_hand_shown a_seen a_seen_rows z_text z_trial z_acts z_slots z_hall_patiences z_now_waited v_actCount v_slotsKept v_seed v_hall_count v_hall_layers v_hall_kinds v_hall_wanted v_now_nights v_now_off v_hand_shown v_seen_count v_seen_rows) H → va_D A (cs_PR_isAsSeen cI cZ a_p0 a_hall a_hall_layers a_hall_kinds a_hall_wanted a_now a_now_off a_hand a_hand_shown a_seen a_seen_rows z_text z_trial z_acts z_slots z_hall_patiences z_now_waited v_actCount v_slotsKept v_seed v_hall_count v_hall_layers v_hall_kinds v_hall_wanted v_now_nights v_now_off v_hand_shown v_seen_count v_seen_rows) → va_S A s.heap H locs → lv_has ls 5 [(0, .ref a_p0), (1, .int x1), (2, .int x2), (3, .int x3)] → f_PR_isAsSeen_124 back_17 v_hall_count v_hall_layers v_hall_kinds v_hall_wanted v_now_off v_seen_count v_seen_rows x1 x2 x3 v_hand_shown = some res → W p l e (rm_ 3 (40 * 3)) s m args below meth c H locs 0 0 Q (F0 m 124 ls []) := by
    intro back_17 K_17 x1 x2 x3 v_hand_shown H locs ls hP hD hS hl hf
    unfold f_PR_isAsSeen_124 at hf
    refine lv_iinc (v := x3 + 1) (lv' := [(3, .int (x3 + 1)), (0, .ref a_p0), (1, .int x1), (2, .int x2)]) hx hb d_PR_isAsSeen_124 hl (k := 3) rfl (rfl) (by decide) rfl (fun ls hl => ?_)
    refine lv_goto (tgt := 17) hx hb d_PR_isAsSeen_127 (by decide) ?_
    exact K_17 x1 x2 (x3 + 1) v_hand_shown _ _ _ hP hD hS (lv_sub hl [1, 2, 3, 0] rfl) hf
  have B_119 : ∀ (back_17 : Int32 → Int32 → Int32 → (Nat → Int32) → Option (Int32 × (Nat → Int32))) (K_17 : ∀ (x1 : Int32) (x2 : Int32) (x3 : Int32) (v_hand_shown : Nat → Int32) (H : Heap) (locs : List Loc) (ls : Array Slot), va_P D classes (cs_PR_isAsSeen cI cZ a_p0 a_hall a_hall_layers a_hall_kinds a_hall_wanted a_now a_now_off a_hand a_hand_shown a_seen a_seen_rows z_text z_trial z_acts z_slots z_hall_patiences z_now_waited v_actCount v_slotsKept v_seed v_hall_count v_hall_layers v_hall_kinds v_hall_wanted v_now_nights v_now_off v_hand_shown v_seen_count v_seen_rows) H → va_D A (cs_PR_isAsSeen cI cZ a_p0 a_hall a_hall_layers a_hall_kinds a_hall_wanted a_now a_now_off a_hand a_hand_shown a_seen a_seen_rows z_text z_trial z_acts z_slots z_hall_patiences z_now_waited v_actCount v_slotsKept v_seed v_hall_count v_hall_layers v_hall_kinds v_hall_wanted v_now_nights v_now_off v_hand_shown v_seen_count v_seen_rows) → va_S A s.heap H locs → lv_has ls 5 [(0, .ref a_p0), (1, .int x1), (2, .int x2), (3, .int x3)] → back_17 x1 x2 x3 v_hand_shown = some res → W p l e (rm_ 3 (40 * 3)) s m args below meth c H locs 0 0 Q (F0 m 17 ls [])) (x1 : Int32) (x2 : Int32) (x3 : Int32) (w0 : Int32) (w1 : Int32) (v_hand_shown : Nat → Int32) (H : Heap) (locs : List Loc) (ls : Array Slot), va_P D classes (cs_PR_isAsSeen cI cZ a_p0 a_hall a_hall_layers a_hall_kinds a_hall_wanted a_now a_now_off a_hand a_hand_shown a_seen a_seen_rows z_text z_trial z_acts z_slots z_hall_patiences z_now_waited v_actCount v_slotsKept v_seed v_hall_count v_hall_layers v_hall_kinds v_hall_wanted v_now_nights v_now_off v_hand_shown v_seen_count v_seen_rows) H → va_D A (cs_PR_isAsSeen cI cZ a_p0 a_hall a_hall_layers a_hall_kinds a_hall_wanted a_now a_now_off a_hand a_hand_shown a_seen a_seen_rows z_text z_trial z_acts z_slots z_hall_patiences z_now_waited v_actCount v_slotsKept v_seed v_hall_count v_hall_layers v_hall_kinds v_hall_wanted v_now_nights v_now_off v_hand_shown v_seen_count v_seen_rows) → va_S A s.heap H locs → lv_has ls 5 [(0, .ref a_p0), (1, .int x1), (2, .int x2), (3, .int x3)] → f_PR_isAsSeen_119 back_17 v_hall_count v_hall_layers v_hall_kinds v_hall_wanted v_now_off v_seen_count v_seen_rows x1 x2 x3 w0 w1 v_hand_shown = some res → W p l e (rm_ 3 (40 * 3)) s m args below meth c H locs 0 0 Q (F0 m 119 ls [.int w1, .int w0]) := by
    intro back_17 K_17 x1 x2 x3 w0 w1 v_hand_shown H locs ls hP hD hS hl hf
    unfold f_PR_isAsSeen_119 at hf
    refine lv_icmp_eq (tgt := 124) hx hb d_PR_isAsSeen_119 (by decide) (fun c1 => ?_) (fun c1 => ?_)
    · have hf := o_pos c1 hf
      exact B_124 back_17 K_17 x1 x2 x3 v_hand_shown _ _ _ hP hD hS (lv_sub hl [0, 1, 2, 3] rfl) hf
    · have hf := o_neg c1 hf
      refine lv_iconst (v := 0) hx hb d_PR_isAsSeen_122 (by decide) ?_
      have hr := Option.some.inj hf
      exact RET _ _ _ _ _ _ rfl (congrArg (fun r : Int32 × (Nat → Int32) => r.1) hr) (congrArg (fun r : Int32 × (Nat → Int32) => (cs_PR_isAsSeen cI cZ a_p0 a_hall a_hall_layers a_hall_kinds a_hall_wanted a_now a_now_off a_hand a_hand_shown a_seen a_seen_rows z_text z_trial z_acts z_slots z_hall_patiences z_now_waited v_actCount v_slotsKept v_seed v_hall_count v_hall_layers v_hall_kinds v_hall_wanted v_now_nights v_now_off r.2 v_seen_count v_seen_rows)) hr) hP hD hS d_PR_isAsSeen_123
  have B_17 : ∀  (n : Nat) (x1 : Int32) (x2 : Int32) (x3 : Int32) (v_hand_shown : Nat → Int32) (H : Heap) (locs : List Loc) (ls : Array Slot), va_P D classes (cs_PR_isAsSeen cI cZ a_p0 a_hall a_hall_layers a_hall_kinds a_hall_wanted a_now a_now_off a_hand a_hand_shown a_seen a_seen_rows z_text z_trial z_acts z_slots z_hall_patiences z_now_waited v_actCount v_slotsKept v_seed v_hall_count v_hall_layers v_hall_kinds v_hall_wanted v_now_nights v_now_off v_hand_shown v_seen_count v_seen_rows) H → va_D A (cs_PR_isAsSeen cI cZ a_p0 a_hall a_hall_layers a_hall_kinds a_hall_wanted a_now a_now_off a_hand a_hand_shown a_seen a_seen_rows z_text z_trial z_acts z_slots z_hall_patiences z_now_waited v_actCount v_slotsKept v_seed v_hall_count v_hall_layers v_hall_kinds v_hall_wanted v_now_nights v_now_off v_hand_shown v_seen_count v_seen_rows) → va_S A s.heap H locs → lv_has ls 5 [(0, .ref a_p0), (1, .int x1), (2, .int x2), (3, .int x3)] → f_PR_isAsSeen_17  v_hall_count v_hall_layers v_hall_kinds v_hall_wanted v_now_off v_seen_count v_seen_rows n x1 x2 x3 v_hand_shown = some res → W p l e (rm_ 3 (40 * 3)) s m args below meth c H locs 0 0 Q (F0 m 17 ls []) := by
    intro  n
    induction n with
    | zero => intro x1 x2 x3 v_hand_shown H locs ls hP hD hS hl hf; exact nomatch hf
    | succ n ih =>
      intro x1 x2 x3 v_hand_shown H locs ls hP hD hS hl hf
      have hf : f_PR_isAsSeen_17_b  (f_PR_isAsSeen_17  v_hall_count v_hall_layers v_hall_kinds v_hall_wanted v_now_off v_seen_count v_seen_rows n) v_hall_count v_hall_layers v_hall_kinds v_hall_wanted v_now_off v_seen_count v_seen_rows x1 x2 x3 v_hand_shown = some res := hf
      generalize f_PR_isAsSeen_17  v_hall_count v_hall_layers v_hall_kinds v_hall_wanted v_now_off v_seen_count v_seen_rows n = back_17 at ih hf
      have K_17 := ih
      unfold f_PR_isAsSeen_17_b at hf
      refine lv_iload_n hx hb d_PR_isAsSeen_17 rfl (lv_at hl 3 rfl) ?_
      refine lv_aload_n hx hb d_PR_isAsSeen_18 rfl (lv_at hl 0 rfl) ?_
      refine gf_PR_55 hC hP 0 rfl rfl d_PR_isAsSeen_19 ?_
      refine gf_PR_104 hC hP 9 rfl rfl d_PR_isAsSeen_22 ?_
      refine lv_icmp_ge (tgt := 130) hx hb d_PR_isAsSeen_25 (by decide) (fun c1 => ?_) (fun c1 => ?_)
      · have hf := o_pos c1 hf
        refine lv_iconst (v := 1) hx hb d_PR_isAsSeen_130 (by decide) ?_
        have hr := Option.some.inj hf
        exact RET _ _ _ _ _ _ rfl (congrArg (fun r : Int32 × (Nat → Int32) => r.1) hr) (congrArg (fun r : Int32 × (Nat → Int32) => (cs_PR_isAsSeen cI cZ a_p0 a_hall a_hall_layers a_hall_kinds a_hall_wanted a_now a_now_off a_hand a_hand_shown a_seen a_seen_rows z_text z_trial z_acts z_slots z_hall_patiences z_now_waited v_actCount v_slotsKept v_seed v_hall_count v_hall_layers v_hall_kinds v_hall_wanted v_now_nights v_now_off r.2 v_seen_count v_seen_rows)) hr) hP hD hS d_PR_isAsSeen_131
      · have hf := o_neg c1 hf
        refine lv_aload_n hx hb d_PR_isAsSeen_28 rfl (lv_at hl 0 rfl) ?_
        refine gf_PR_55 hC hP 0 rfl rfl d_PR_isAsSeen_29 ?_
        refine lv_iload_n hx hb d_PR_isAsSeen_32 rfl (lv_at hl 3 rfl) ?_
        refine lv_iconst (v := 0) hx hb d_PR_isAsSeen_33 (by decide) ?_
        obtain ⟨r2, h3, hf⟩ := o_bind hf
        refine cVi (rest := []) (wr := [(a_p0, .inr (6, [.ref z_text, .ref a_hall, .ref a_now, .ref z_trial, .ref a_hand, .ref z_acts, .ref z_slots, .ref a_seen, .int v_actCount, .int v_slotsKept, .long v_seed])), (a_hall, .inr (0, [.ref a_hall_layers, .ref a_hall_kinds, .ref z_hall_patiences, .ref a_hall_wanted, .int v_hall_count])), (a_hall_layers, .inl (cI, 12, .inl v_hall_layers)), (a_hall_kinds, .inl (cI, 5, .inl v_hall_kinds)), (a_hall_wanted, .inl (cI, 20, .inl v_hall_wanted)), (a_now, .inr (2, [.ref a_now_off, .ref z_now_waited, .int v_now_nights])), (a_now_off, .inl (cI, 4, .inl v_now_off)), (a_hand, .inr (1, [.ref a_hand_shown])), (a_hand_shown, .inl (cI, 4, .inl v_hand_shown))]) (wn := (cs_PR_isAsSeen cI cZ a_p0 a_hall a_hall_layers a_hall_kinds a_hall_wanted a_now a_now_off a_hand a_hand_shown a_seen a_seen_rows z_text z_trial z_acts z_slots z_hall_patiences z_now_waited v_actCount v_slotsKept v_seed v_hall_count v_hall_layers v_hall_kinds v_hall_wanted v_now_nights v_now_off v_hand_shown v_seen_count v_seen_rows)) (c_Seen_at l D cI cZ a_seen a_seen_rows x3 0 v_seen_count v_seen_rows r2 h3) hC hA hP hD hS hl.1 cw_PR_251 9 rfl rfl rfl ⟨Nat.le_of_ble_eq_true rfl, Nat.le_of_ble_eq_true rfl⟩ rfl rfl (Nat.le_of_ble_eq_true rfl) d_PR_isAsSeen_34 ⟨Nat.zero_le _, Nat.zero_le _⟩ [9, 10] [0, 1, 2, 3, 4, 5, 6, 7, 8] [0, 1, 2, 3, 4, 5, 6, 7, 8, 9, 10] (by decide) (Cut_mk rfl rfl (by decide) (by decide) (by decide) rfl) (fun H locs hP hD hS => ?_)
        refine lv_istore (lv' := [(4, .int r2), (0, .ref a_p0), (1, .int x1), (2, .int x2), (3, .int x3)]) hx hb d_PR_isAsSeen_37 hl (by decide) rfl (fun ls hl => ?_)
        refine lv_aload_n hx hb d_PR_isAsSeen_39 rfl (lv_at hl 1 rfl) ?_
        refine gf_PR_55 hC hP 0 rfl rfl d_PR_isAsSeen_40 ?_
        refine lv_iload_n hx hb d_PR_isAsSeen_43 rfl (lv_at hl 4 rfl) ?_
        refine lv_iconst (v := 1) hx hb d_PR_isAsSeen_44 (by decide) ?_
        obtain ⟨r4, h5, hf⟩ := o_bind hf
        refine cVi (rest := []) (wr := [(a_p0, .inr (6, [.ref z_text, .ref a_hall, .ref a_now, .ref z_trial, .ref a_hand, .ref z_acts, .ref z_slots, .ref a_seen, .int v_actCount, .int v_slotsKept, .long v_seed])), (a_hall, .inr (0, [.ref a_hall_layers, .ref a_hall_kinds, .ref z_hall_patiences, .ref a_hall_wanted, .int v_hall_count])), (a_hall_layers, .inl (cI, 12, .inl v_hall_layers)), (a_hall_kinds, .inl (cI, 5, .inl v_hall_kinds)), (a_hall_wanted, .inl (cI, 20, .inl v_hall_wanted)), (a_now, .inr (2, [.ref a_now_off, .ref z_now_waited, .int v_now_nights])), (a_now_off, .inl (cI, 4, .inl v_now_off)), (a_hand, .inr (1, [.ref a_hand_shown])), (a_hand_shown, .inl (cI, 4, .inl v_hand_shown))]) (wn := (cs_PR_isAsSeen cI cZ a_p0 a_hall a_hall_layers a_hall_kinds a_hall_wanted a_now a_now_off a_hand a_hand_shown a_seen a_seen_rows z_text z_trial z_acts z_slots z_hall_patiences z_now_waited v_actCount v_slotsKept v_seed v_hall_count v_hall_layers v_hall_kinds v_hall_wanted v_now_nights v_now_off v_hand_shown v_seen_count v_seen_rows)) (c_Seen_at l D cI cZ a_seen a_seen_rows x3 1 v_seen_count v_seen_rows r4 h5) hC hA hP hD hS hl.1 cw_PR_251 9 rfl rfl rfl ⟨Nat.le_of_ble_eq_true rfl, Nat.le_of_ble_eq_true rfl⟩ rfl rfl (Nat.le_of_ble_eq_true rfl) d_PR_isAsSeen_45 ⟨Nat.zero_le _, Nat.zero_le _⟩ [9, 10] [0, 1, 2, 3, 4, 5, 6, 7, 8] [0, 1, 2, 3, 4, 5, 6, 7, 8, 9, 10] (by decide) (Cut_mk rfl rfl (by decide) (by decide) (by decide) rfl) (fun H locs hP hD hS => ?_)
        refine lv_iload_n hx hb d_PR_isAsSeen_48 rfl (lv_at hl 2 rfl) ?_
        refine lv_icmp_ne (tgt := 124) hx hb d_PR_isAsSeen_49 (by decide) (fun c6 => ?_) (fun c6 => ?_)
        · have hf := o_neg c6 hf
          exact B_124 back_17 K_17 x1 x2 x3 v_hand_shown _ _ _ hP hD hS (lv_sub hl [1, 2, 3, 4] rfl) hf
        · have hf := o_pos c6 hf
          refine lv_aload_n hx hb d_PR_isAsSeen_52 rfl (lv_at hl 1 rfl) ?_
          refine gf_PR_19 hC hP 0 rfl rfl d_PR_isAsSeen_53 ?_
          refine lv_iload hx hb d_PR_isAsSeen_56 (lv_at hl 0 rfl) ?_
          obtain ⟨r7, h8, hf⟩ := o_bind hf
          refine cVi (rest := []) (wr := [(a_p0, .inr (6, [.ref z_text, .ref a_hall, .ref a_now, .ref z_trial, .ref a_hand, .ref z_acts, .ref z_slots, .ref a_seen, .int v_actCount, .int v_slotsKept, .long v_seed])), (a_hall_layers, .inl (cI, 12, .inl v_hall_layers)), (a_hall_kinds, .inl (cI, 5, .inl v_hall_kinds)), (a_hall_wanted, .inl (cI, 20, .inl v_hall_wanted)), (a_now, .inr (2, [.ref a_now_off, .ref z_now_waited, .int v_now_nights])), (a_now_off, .inl (cI, 4, .inl v_now_off)), (a_hand, .inr (1, [.ref a_hand_shown])), (a_hand_shown, .inl (cI, 4, .inl v_hand_shown)), (a_seen, .inr (3, [.ref a_seen_rows, .int v_seen_count])), (a_seen_rows, .inl (cI, 24, .inl v_seen_rows))]) (wn := (cs_PR_isAsSeen cI cZ a_p0 a_hall a_hall_layers a_hall_kinds a_hall_wanted a_now a_now_off a_hand a_hand_shown a_seen a_seen_rows z_text z_trial z_acts z_slots z_hall_patiences z_now_waited v_actCount v_slotsKept v_seed v_hall_count v_hall_layers v_hall_kinds v_hall_wanted v_now_nights v_now_off v_hand_shown v_seen_count v_seen_rows)) (c_Hall_has l D cI cZ a_hall a_hall_layers a_hall_kinds z_hall_patiences a_hall_wanted r2 v_hall_count r7 h8) hC hA hP hD hS hl.1 cw_PR_119 1 rfl rfl rfl ⟨Nat.le_of_ble_eq_true rfl, Nat.le_of_ble_eq_true rfl⟩ rfl rfl (Nat.le_of_ble_eq_true rfl) d_PR_isAsSeen_58 ⟨Nat.zero_le _, Nat.zero_le _⟩ [1] [0, 2, 3, 4, 5, 6, 7, 8, 9, 10] [0, 10, 1, 2, 3, 4, 5, 6, 7, 8, 9] (by decide) (Cut_mk rfl rfl (by decide) (by decide) (by decide) rfl) (fun H locs hP hD hS => ?_)
          refine lv_if_ne (tgt := 67) hx hb d_PR_isAsSeen_61 (by decide) (fun c9 => ?_) (fun c9 => ?_)
          · have hf := o_neg c9 hf
            refine lv_aload_n hx hb d_PR_isAsSeen_67 rfl (lv_at hl 1 rfl) ?_
            refine gf_PR_36 hC hP 0 rfl rfl d_PR_isAsSeen_68 ?_
            refine lv_iload_n hx hb d_PR_isAsSeen_71 rfl (lv_at hl 2 rfl) ?_
            refine lv_iload_n hx hb d_PR_isAsSeen_72 rfl (lv_at hl 3 rfl) ?_
            refine lv_aload_n hx hb d_PR_isAsSeen_73 rfl (lv_at hl 1 rfl) ?_
            refine gf_PR_55 hC hP 0 rfl rfl d_PR_isAsSeen_74 ?_
            refine lv_iload_n hx hb d_PR_isAsSeen_77 rfl (lv_at hl 4 rfl) ?_
            refine lv_iconst (v := 2) hx hb d_PR_isAsSeen_78 (by decide) ?_
            obtain ⟨r10, h11, hf⟩ := o_bind hf
            refine cVi (rest := [.int x2, .int x1, .ref a_hand]) (wr := [(a_p0, .inr (6, [.ref z_text, .ref a_hall, .ref a_now, .ref z_trial, .ref a_hand, .ref z_acts, .ref z_slots, .ref a_seen, .int v_actCount, .int v_slotsKept, .long v_seed])), (a_hall, .inr (0, [.ref a_hall_layers, .ref a_hall_kinds, .ref z_hall_patiences, .ref a_hall_wanted, .int v_hall_count])), (a_hall_layers, .inl (cI, 12, .inl v_hall_layers)), (a_hall_kinds, .inl (cI, 5, .inl v_hall_kinds)), (a_hall_wanted, .inl (cI, 20, .inl v_hall_wanted)), (a_now, .inr (2, [.ref a_now_off, .ref z_now_waited, .int v_now_nights])), (a_now_off, .inl (cI, 4, .inl v_now_off)), (a_hand, .inr (1, [.ref a_hand_shown])), (a_hand_shown, .inl (cI, 4, .inl v_hand_shown))]) (wn := (cs_PR_isAsSeen cI cZ a_p0 a_hall a_hall_layers a_hall_kinds a_hall_wanted a_now a_now_off a_hand a_hand_shown a_seen a_seen_rows z_text z_trial z_acts z_slots z_hall_patiences z_now_waited v_actCount v_slotsKept v_seed v_hall_count v_hall_layers v_hall_kinds v_hall_wanted v_now_nights v_now_off v_hand_shown v_seen_count v_seen_rows)) (c_Seen_at l D cI cZ a_seen a_seen_rows x3 2 v_seen_count v_seen_rows r10 h11) hC hA hP hD hS hl.1 cw_PR_251 9 rfl rfl rfl ⟨Nat.le_of_ble_eq_true rfl, Nat.le_of_ble_eq_true rfl⟩ rfl rfl (Nat.le_of_ble_eq_true rfl) d_PR_isAsSeen_79 ⟨Nat.zero_le _, Nat.zero_le _⟩ [9, 10] [0, 1, 2, 3, 4, 5, 6, 7, 8] [0, 1, 2, 3, 4, 5, 6, 7, 8, 9, 10] (by decide) (Cut_mk rfl rfl (by decide) (by decide) (by decide) rfl) (fun H locs hP hD hS => ?_)
            obtain ⟨r12, h13, hf⟩ := o_bind hf
            refine cSi0 (rest := [.int x1, .ref a_hand]) (c_PR_layerOfRow l D cI cZ x2 r10 r12 h13) hC hA hP hD hS hl.1 cw_PR_254 ⟨Nat.le_of_ble_eq_true rfl, Nat.le_of_ble_eq_true rfl⟩ rfl rfl (Nat.le_of_ble_eq_true rfl) d_PR_isAsSeen_82 ⟨Nat.zero_le _, Nat.zero_le _⟩ (fun H locs hP hS => ?_)
            obtain ⟨r14, h15, hf⟩ := o_bind hf
            refine cVv (rest := []) (wr := [(a_p0, .inr (6, [.ref z_text, .ref a_hall, .ref a_now, .ref z_trial, .ref a_hand, .ref z_acts, .ref z_slots, .ref a_seen, .int v_actCount, .int v_slotsKept, .long v_seed])), (a_hall, .inr (0, [.ref a_hall_layers, .ref a_hall_kinds, .ref z_hall_patiences, .ref a_hall_wanted, .int v_hall_count])), (a_hall_layers, .inl (cI, 12, .inl v_hall_layers)), (a_hall_kinds, .inl (cI, 5, .inl v_hall_kinds)), (a_hall_wanted, .inl (cI, 20, .inl v_hall_wanted)), (a_now, .inr (2, [.ref a_now_off, .ref z_now_waited, .int v_now_nights])), (a_now_off, .inl (cI, 4, .inl v_now_off)), (a_seen, .inr (3, [.ref a_seen_rows, .int v_seen_count])), (a_seen_rows, .inl (cI, 24, .inl v_seen_rows))]) (wn := (cs_PR_isAsSeen cI cZ a_p0 a_hall a_hall_layers a_hall_kinds a_hall_wanted a_now a_now_off a_hand a_hand_shown a_seen a_seen_rows z_text z_trial z_acts z_slots z_hall_patiences z_now_waited v_actCount v_slotsKept v_seed v_hall_count v_hall_layers v_hall_kinds v_hall_wanted v_now_nights v_now_off r14 v_seen_count v_seen_rows)) (c_Hand_show l D cI cZ a_hand a_hand_shown x1 r12 v_hand_shown r14 h15) hC hA hP hD hS hl.1 cw_PR_247 7 rfl rfl rfl ⟨Nat.le_of_ble_eq_true rfl, Nat.le_of_ble_eq_true rfl⟩ rfl rfl (Nat.le_of_ble_eq_true rfl) d_PR_isAsSeen_85 ⟨Nat.zero_le _, Nat.zero_le _⟩ [7, 8] [0, 1, 2, 3, 4, 5, 6, 9, 10] [0, 1, 2, 3, 4, 5, 6, 9, 10, 7, 8] (by decide) (Cut_mk rfl rfl (by decide) (by decide) (by decide) rfl) (fun H locs hP hD hS => ?_)
            refine lv_aload_n hx hb d_PR_isAsSeen_88 rfl (lv_at hl 1 rfl) ?_
            refine gf_PR_36 hC hP 0 rfl rfl d_PR_isAsSeen_89 ?_
            refine lv_aload_n hx hb d_PR_isAsSeen_92 rfl (lv_at hl 1 rfl) ?_
            refine gf_PR_19 hC hP 0 rfl rfl d_PR_isAsSeen_93 ?_
            refine lv_iload hx hb d_PR_isAsSeen_96 (lv_at hl 0 rfl) ?_
            obtain ⟨r16, h17, hf⟩ := o_bind hf
            refine cVi (rest := []) (wr := [(a_p0, .inr (6, [.ref z_text, .ref a_hall, .ref a_now, .ref z_trial, .ref a_hand, .ref z_acts, .ref z_slots, .ref a_seen, .int v_actCount, .int v_slotsKept, .long v_seed])), (a_hall_layers, .inl (cI, 12, .inl v_hall_layers)), (a_now, .inr (2, [.ref a_now_off, .ref z_now_waited, .int v_now_nights])), (a_now_off, .inl (cI, 4, .inl v_now_off)), (a_seen, .inr (3, [.ref a_seen_rows, .int v_seen_count])), (a_seen_rows, .inl (cI, 24, .inl v_seen_rows))]) (wn := (cs_PR_isAsSeen cI cZ a_p0 a_hall a_hall_layers a_hall_kinds a_hall_wanted a_now a_now_off a_hand a_hand_shown a_seen a_seen_rows z_text z_trial z_acts z_slots z_hall_patiences z_now_waited v_actCount v_slotsKept v_seed v_hall_count v_hall_layers v_hall_kinds v_hall_wanted v_now_nights v_now_off r14 v_seen_count v_seen_rows)) (c_Hand_hails l D cI cZ a_hand a_hand_shown a_hall a_hall_kinds a_hall_wanted a_hall_layers z_hall_patiences r2 r14 v_hall_count v_hall_kinds v_hall_wanted r16 h17) hC hA hP hD hS hl.1 cw_PR_257 7 rfl rfl rfl ⟨Nat.le_of_ble_eq_true rfl, Nat.le_of_ble_eq_true rfl⟩ rfl rfl (Nat.le_of_ble_eq_true rfl) d_PR_isAsSeen_98 ⟨Nat.zero_le _, Nat.zero_le _⟩ [7, 8, 1, 3, 4] [0, 2, 5, 6, 9, 10] [0, 8, 1, 9, 10, 2, 3, 6, 7, 4, 5] (by decide) (Cut_mk rfl rfl (by decide) (by decide) (by decide) rfl) (fun H locs hP hD hS => ?_)
            refine lv_aload_n hx hb d_PR_isAsSeen_101 rfl (lv_at hl 1 rfl) ?_
            refine gf_PR_55 hC hP 0 rfl rfl d_PR_isAsSeen_102 ?_
            refine lv_iload_n hx hb d_PR_isAsSeen_105 rfl (lv_at hl 4 rfl) ?_
            refine lv_iconst (v := 3) hx hb d_PR_isAsSeen_106 (by decide) ?_
            obtain ⟨r18, h19, hf⟩ := o_bind hf
            refine cVi (rest := [.int r16]) (wr := [(a_p0, .inr (6, [.ref z_text, .ref a_hall, .ref a_now, .ref z_trial, .ref a_hand, .ref z_acts, .ref z_slots, .ref a_seen, .int v_actCount, .int v_slotsKept, .long v_seed])), (a_hall, .inr (0, [.ref a_hall_layers, .ref a_hall_kinds, .ref z_hall_patiences, .ref a_hall_wanted, .int v_hall_count])), (a_hall_layers, .inl (cI, 12, .inl v_hall_layers)), (a_hall_kinds, .inl (cI, 5, .inl v_hall_kinds)), (a_hall_wanted, .inl (cI, 20, .inl v_hall_wanted)), (a_now, .inr (2, [.ref a_now_off, .ref z_now_waited, .int v_now_nights])), (a_now_off, .inl (cI, 4, .inl v_now_off)), (a_hand, .inr (1, [.ref a_hand_shown])), (a_hand_shown, .inl (cI, 4, .inl r14))]) (wn := (cs_PR_isAsSeen cI cZ a_p0 a_hall a_hall_layers a_hall_kinds a_hall_wanted a_now a_now_off a_hand a_hand_shown a_seen a_seen_rows z_text z_trial z_acts z_slots z_hall_patiences z_now_waited v_actCount v_slotsKept v_seed v_hall_count v_hall_layers v_hall_kinds v_hall_wanted v_now_nights v_now_off r14 v_seen_count v_seen_rows)) (c_Seen_at l D cI cZ a_seen a_seen_rows x3 3 v_seen_count v_seen_rows r18 h19) hC hA hP hD hS hl.1 cw_PR_251 9 rfl rfl rfl ⟨Nat.le_of_ble_eq_true rfl, Nat.le_of_ble_eq_true rfl⟩ rfl rfl (Nat.le_of_ble_eq_true rfl) d_PR_isAsSeen_107 ⟨Nat.zero_le _, Nat.zero_le _⟩ [9, 10] [0, 1, 2, 3, 4, 5, 6, 7, 8] [0, 1, 2, 3, 4, 5, 6, 7, 8, 9, 10] (by decide) (Cut_mk rfl rfl (by decide) (by decide) (by decide) rfl) (fun H locs hP hD hS => ?_)
            refine lv_iconst (v := 1) hx hb d_PR_isAsSeen_110 (by decide) ?_
            refine lv_icmp_ne (tgt := 118) hx hb d_PR_isAsSeen_111 (by decide) (fun c20 => ?_) (fun c20 => ?_)
            · have hf := o_neg c20 hf
              refine lv_iconst (v := 0) hx hb d_PR_isAsSeen_118 (by decide) ?_
              exact B_119 back_17 K_17 x1 x2 x3 r16 0 r14 _ _ _ hP hD hS (lv_sub hl [1, 2, 3, 4] rfl) hf
            · have hf := o_pos c20 hf
              refine lv_iconst (v := 1) hx hb d_PR_isAsSeen_114 (by decide) ?_
              refine lv_goto (tgt := 119) hx hb d_PR_isAsSeen_115 (by decide) ?_
              exact B_119 back_17 K_17 x1 x2 x3 r16 1 r14 _ _ _ hP hD hS (lv_sub hl [1, 2, 3, 4] rfl) hf
          · have hf := o_pos c9 hf
            refine lv_goto (tgt := 124) hx hb d_PR_isAsSeen_64 (by decide) ?_
            exact B_124 back_17 K_17 x1 x2 x3 v_hand_shown _ _ _ hP hD hS (lv_sub hl [1, 2, 3, 4] rfl) hf
  unfold f_PR_isAsSeen at hf
  have E : ∀ (H : Heap) (locs : List Loc), va_P D classes (cs_PR_isAsSeen cI cZ a_p0 a_hall a_hall_layers a_hall_kinds a_hall_wanted a_now a_now_off a_hand a_hand_shown a_seen a_seen_rows z_text z_trial z_acts z_slots z_hall_patiences z_now_waited v_actCount v_slotsKept v_seed v_hall_count v_hall_layers v_hall_kinds v_hall_wanted v_now_nights v_now_off v_hand_shown v_seen_count v_seen_rows) H → va_S A s.heap H locs → W p l e (rm_ 3 (40 * 3)) s m args below meth c H locs 0 0 Q (F0 m 0 ls []) := by
    intro H locs hP hS
    refine lv_aload_n hx hb d_PR_isAsSeen_0 rfl (lv_at hl 0 rfl) ?_
    refine gf_PR_36 hC hP 0 rfl rfl d_PR_isAsSeen_1 ?_
    refine lv_aload_n hx hb d_PR_isAsSeen_4 rfl (lv_at hl 0 rfl) ?_
    refine gf_PR_19 hC hP 0 rfl rfl d_PR_isAsSeen_5 ?_
    refine lv_aload_n hx hb d_PR_isAsSeen_8 rfl (lv_at hl 0 rfl) ?_
    refine gf_PR_26 hC hP 0 rfl rfl d_PR_isAsSeen_9 ?_
    obtain ⟨r1, h2, hf⟩ := o_bind hf
    refine cVv (rest := []) (wr := [(a_p0, .inr (6, [.ref z_text, .ref a_hall, .ref a_now, .ref z_trial, .ref a_hand, .ref z_acts, .ref z_slots, .ref a_seen, .int v_actCount, .int v_slotsKept, .long v_seed])), (a_hall_kinds, .inl (cI, 5, .inl v_hall_kinds)), (a_hall_wanted, .inl (cI, 20, .inl v_hall_wanted)), (a_seen, .inr (3, [.ref a_seen_rows, .int v_seen_count])), (a_seen_rows, .inl (cI, 24, .inl v_seen_rows))]) (wn := (cs_PR_isAsSeen cI cZ a_p0 a_hall a_hall_layers a_hall_kinds a_hall_wanted a_now a_now_off a_hand a_hand_shown a_seen a_seen_rows z_text z_trial z_acts z_slots z_hall_patiences z_now_waited v_actCount v_slotsKept v_seed v_hall_count v_hall_layers v_hall_kinds v_hall_wanted v_now_nights v_now_off r1 v_seen_count v_seen_rows)) (c_Hand_showAll l D cI cZ a_hand a_hand_shown a_hall a_hall_layers a_now a_now_off a_hall_kinds z_hall_patiences a_hall_wanted z_now_waited v_hand_shown v_hall_count v_hall_layers v_now_nights v_now_off r1 h2) hC hA hP hD hS hl.1 cw_PR_236 7 rfl rfl rfl ⟨Nat.le_of_ble_eq_true rfl, Nat.le_of_ble_eq_true rfl⟩ rfl rfl (Nat.le_of_ble_eq_true rfl) d_PR_isAsSeen_12 ⟨Nat.zero_le _, Nat.zero_le _⟩ [7, 8, 1, 2, 5, 6] [0, 3, 4, 9, 10] [0, 7, 8, 1, 2, 9, 10, 5, 6, 3, 4] (by decide) (Cut_mk rfl rfl (by decide) (by decide) (by decide) rfl) (fun H locs hP hD hS => ?_)
    refine lv_iconst (v := 0) hx hb d_PR_isAsSeen_15 (by decide) ?_
    refine lv_istore_n (lv' := [(3, .int 0), (0, .ref a_p0), (1, .int i1), (2, .int i2)]) hx hb d_PR_isAsSeen_16 rfl hl (by decide) rfl (fun ls hl => ?_)
    exact B_17 300 i1 i2 0 r1 _ _ _ hP hD hS (lv_sub hl [1, 2, 3, 0] rfl) hf
  exact E _ _ hP hS
set_option maxHeartbeats 4000000 in
set_option maxRecDepth 100000 in
theorem c_PR_under (l : Launch) (D : va_G) (cI cZ : ClassId) (a_p0 a_hall a_hall_layers a_hall_kinds a_hall_wanted a_now a_now_off a_hand a_hand_shown a_seen a_seen_rows z_text z_trial z_acts z_slots z_hall_patiences z_now_waited : Nat) (i1 : Int32) (i2 : Int32) (v_actCount : Int32) (v_slotsKept : Int32) (v_seed : Int64) (v_hall_count : Int32) (v_hall_layers : Nat → Int32) (v_hall_kinds : Nat → Int32) (v_hall_wanted : Nat → Int32) (v_now_nights : Int32) (v_now_off : Nat → Int32) (v_hand_shown : Nat → Int32) (v_seen_count : Int32) (v_seen_rows : Nat → Int32) (res : Int32 × (Nat → Int32)) (hf : f_PR_under i1 i2 v_hall_count v_hall_layers v_hall_kinds v_hall_wanted v_now_off v_seen_count v_seen_rows v_hand_shown = some res) : CtI l y_PR_under b_PR_under 6 (some .int) 4 D cI cZ [.ref a_p0, .int i1, .int i2] (cs_PR_under cI cZ a_p0 a_hall a_hall_layers a_hall_kinds a_hall_wanted a_now a_now_off a_hand a_hand_shown a_seen a_seen_rows z_text z_trial z_acts z_slots z_hall_patiences z_now_waited v_actCount v_slotsKept v_seed v_hall_count v_hall_layers v_hall_kinds v_hall_wanted v_now_nights v_now_off v_hand_shown v_seen_count v_seen_rows) res.1 (cs_PR_under cI cZ a_p0 a_hall a_hall_layers a_hall_kinds a_hall_wanted a_now a_now_off a_hand a_hand_shown a_seen a_seen_rows z_text z_trial z_acts z_slots z_hall_patiences z_now_waited v_actCount v_slotsKept v_seed v_hall_count v_hall_layers v_hall_kinds v_hall_wanted v_now_nights v_now_off res.2 v_seen_count v_seen_rows) := by
  refine CtI_mk (by decide) (Nat.le_of_ble_eq_true rfl) ?_
  intro p e s m args below meth c A Q hC hA hP hD RET ls hl
  have hC : Cx p s m args meth c b_PR_under 6 R_PR D cI cZ := hC
  have hl : lv_has ls 6 [(0, .ref a_p0), (1, .int i1), (2, .int i2)] := hl
  obtain ⟨hx, hb, hml, hown, hts, hlk, hKK⟩ := id hC
  have hS : va_S A s.heap s.heap [] := va_S.rf
  have B_80 : ∀  (w0 : Int32) (v_hand_shown : Nat → Int32) (H : Heap) (locs : List Loc) (ls : Array Slot), va_P D classes (cs_PR_under cI cZ a_p0 a_hall a_hall_layers a_hall_kinds a_hall_wanted a_now a_now_off a_hand a_hand_shown a_seen a_seen_rows z_text z_trial z_acts z_slots z_hall_patiences z_now_waited v_actCount v_slotsKept v_seed v_hall_count v_hall_layers v_hall_kinds v_hall_wanted v_now_nights v_now_off v_hand_shown v_seen_count v_seen_rows) H → va_D A (cs_PR_under cI cZ a_p0 a_hall a_hall_layers a_hall_kinds a_hall_wanted a_now a_now_off a_hand a_hand_shown a_seen a_seen_rows z_text z_trial z_acts z_slots z_hall_patiences z_now_waited v_actCount v_slotsKept v_seed v_hall_count v_hall_layers v_hall_kinds v_hall_wanted v_now_nights v_now_off v_hand_shown v_seen_count v_seen_rows) → va_S A s.heap H locs → lv_has ls 6 [] → f_PR_under_80  v_hall_count v_hall_layers v_hall_kinds v_hall_wanted v_now_off v_seen_count v_seen_rows w0 v_hand_shown = some res → W p l e (rm_ 4 (40 * 4)) s m args below meth c H locs 0 0 Q (F0 m 80 ls [.int w0]) := by
    intro  w0 v_hand_shown H locs ls hP hD hS hl hf
    unfold f_PR_under_80 at hf
    have hr := Option.some.inj hf
    exact RET _ _ _ _ _ _ rfl (congrArg (fun r : Int32 × (Nat → Int32) => r.1) hr) (congrArg (fun r : Int32 × (Nat → Int32) => (cs_PR_under cI cZ a_p0 a_hall a_hall_layers a_hall_kinds a_hall_wanted a_now a_now_off a_hand a_hand_shown a_seen a_seen_rows z_text z_trial z_acts z_slots z_hall_patiences z_now_waited v_actCount v_slotsKept v_seed v_hall_count v_hall_layers v_hall_kinds v_hall_wanted v_now_nights v_now_off r.2 v_seen_count v_seen_rows)) hr) hP hD hS d_PR_under_80
  have B_64 : ∀ (back_28 : Int32 → Int32 → Int32 → Int32 → Int32 → (Nat → Int32) → Option (Int32 × (Nat → Int32))) (K_28 : ∀ (x1 : Int32) (x2 : Int32) (x3 : Int32) (x4 : Int32) (x5 : Int32) (v_hand_shown : Nat → Int32) (H : Heap) (locs : List Loc) (ls : Array Slot), va_P D classes (cs_PR_under cI cZ a_p0 a_hall a_hall_layers a_hall_kinds a_hall_wanted a_now a_now_off a_hand a_hand_shown a_seen a_seen_rows z_text z_trial z_acts z_slots z_hall_patiences z_now_waited v_actCount v_slotsKept v_seed v_hall_count v_hall_layers v_hall_kinds v_hall_wanted v_now_nights v_now_off v_hand_shown v_seen_count v_seen_rows) H → va_D A (cs_PR_under cI cZ a_p0 a_hall a_hall_layers a_hall_kinds a_hall_wanted a_now a_now_off a_hand a_hand_shown a_seen a_seen_rows z_text z_trial z_acts z_slots z_hall_patiences z_now_waited v_actCount v_slotsKept v_seed v_hall_count v_hall_layers v_hall_kinds v_hall_wanted v_now_nights v_now_off v_hand_shown v_seen_count v_seen_rows) → va_S A s.heap H locs → lv_has ls 6 [(0, .ref a_p0), (1, .int x1), (2, .int x2), (3, .int x3), (4, .int x4), (5, .int x5)] → back_28 x1 x2 x3 x4 x5 v_hand_shown = some res → W p l e (rm_ 4 (40 * 4)) s m args below meth c H locs 0 0 Q (F0 m 28 ls [])) (x1 : Int32) (x2 : Int32) (x3 : Int32) (x4 : Int32) (x5 : Int32) (v_hand_shown : Nat → Int32) (H : Heap) (locs : List Loc) (ls : Array Slot), va_P D classes (cs_PR_under cI cZ a_p0 a_hall a_hall_layers a_hall_kinds a_hall_wanted a_now a_now_off a_hand a_hand_shown a_seen a_seen_rows z_text z_trial z_acts z_slots z_hall_patiences z_now_waited v_actCount v_slotsKept v_seed v_hall_count v_hall_layers v_hall_kinds v_hall_wanted v_now_nights v_now_off v_hand_shown v_seen_count v_seen_rows) H → va_D A (cs_PR_under cI cZ a_p0 a_hall a_hall_layers a_hall_kinds a_hall_wanted a_now a_now_off a_hand a_hand_shown a_seen a_seen_rows z_text z_trial z_acts z_slots z_hall_patiences z_now_waited v_actCount v_slotsKept v_seed v_hall_count v_hall_layers v_hall_kinds v_hall_wanted v_now_nights v_now_off v_hand_shown v_seen_count v_seen_rows) → va_S A s.heap H locs → lv_has ls 6 [(0, .ref a_p0), (1, .int x1), (2, .int x2), (3, .int x3), (4, .int x4), (5, .int x5)] → f_PR_under_64 back_28 v_hall_count v_hall_layers v_hall_kinds v_hall_wanted v_now_off v_seen_count v_seen_rows x1 x2 x3 x4 x5 v_hand_shown = some res → W p l e (rm_ 4 (40 * 4)) s m args below meth c H locs 0 0 Q (F0 m 64 ls []) := by
    intro back_28 K_28 x1 x2 x3 x4 x5 v_hand_shown H locs ls hP hD hS hl hf
    unfold f_PR_under_64 at hf
    refine lv_iinc (v := x5 + 1) (lv' := [(5, .int (x5 + 1)), (0, .ref a_p0), (1, .int x1), (2, .int x2), (3, .int x3), (4, .int x4)]) hx hb d_PR_under_64 hl (k := 5) rfl (rfl) (by decide) rfl (fun ls hl => ?_)
    refine lv_goto (tgt := 28) hx hb d_PR_under_67 (by decide) ?_
    exact K_28 x1 x2 x3 x4 (x5 + 1) v_hand_shown _ _ _ hP hD hS (lv_sub hl [1, 2, 3, 4, 5, 0] rfl) hf
  have B_62 : ∀ (back_28 : Int32 → Int32 → Int32 → Int32 → Int32 → (Nat → Int32) → Option (Int32 × (Nat → Int32))) (K_28 : ∀ (x1 : Int32) (x2 : Int32) (x3 : Int32) (x4 : Int32) (x5 : Int32) (v_hand_shown : Nat → Int32) (H : Heap) (locs : List Loc) (ls : Array Slot), va_P D classes (cs_PR_under cI cZ a_p0 a_hall a_hall_layers a_hall_kinds a_hall_wanted a_now a_now_off a_hand a_hand_shown a_seen a_seen_rows z_text z_trial z_acts z_slots z_hall_patiences z_now_waited v_actCount v_slotsKept v_seed v_hall_count v_hall_layers v_hall_kinds v_hall_wanted v_now_nights v_now_off v_hand_shown v_seen_count v_seen_rows) H → va_D A (cs_PR_under cI cZ a_p0 a_hall a_hall_layers a_hall_kinds a_hall_wanted a_now a_now_off a_hand a_hand_shown a_seen a_seen_rows z_text z_trial z_acts z_slots z_hall_patiences z_now_waited v_actCount v_slotsKept v_seed v_hall_count v_hall_layers v_hall_kinds v_hall_wanted v_now_nights v_now_off v_hand_shown v_seen_count v_seen_rows) → va_S A s.heap H locs → lv_has ls 6 [(0, .ref a_p0), (1, .int x1), (2, .int x2), (3, .int x3), (4, .int x4), (5, .int x5)] → back_28 x1 x2 x3 x4 x5 v_hand_shown = some res → W p l e (rm_ 4 (40 * 4)) s m args below meth c H locs 0 0 Q (F0 m 28 ls [])) (x1 : Int32) (x2 : Int32) (x3 : Int32) (x5 : Int32) (w0 : Int32) (v_hand_shown : Nat → Int32) (H : Heap) (locs : List Loc) (ls : Array Slot), va_P D classes (cs_PR_under cI cZ a_p0 a_hall a_hall_layers a_hall_kinds a_hall_wanted a_now a_now_off a_hand a_hand_shown a_seen a_seen_rows z_text z_trial z_acts z_slots z_hall_patiences z_now_waited v_actCount v_slotsKept v_seed v_hall_count v_hall_layers v_hall_kinds v_hall_wanted v_now_nights v_now_off v_hand_shown v_seen_count v_seen_rows) H → va_D A (cs_PR_under cI cZ a_p0 a_hall a_hall_layers a_hall_kinds a_hall_wanted a_now a_now_off a_hand a_hand_shown a_seen a_seen_rows z_text z_trial z_acts z_slots z_hall_patiences z_now_waited v_actCount v_slotsKept v_seed v_hall_count v_hall_layers v_hall_kinds v_hall_wanted v_now_nights v_now_off v_hand_shown v_seen_count v_seen_rows) → va_S A s.heap H locs → lv_has ls 6 [(0, .ref a_p0), (1, .int x1), (2, .int x2), (3, .int x3), (5, .int x5)] → f_PR_under_62 back_28 v_hall_count v_hall_layers v_hall_kinds v_hall_wanted v_now_off v_seen_count v_seen_rows x1 x2 x3 x5 w0 v_hand_shown = some res → W p l e (rm_ 4 (40 * 4)) s m args below meth c H locs 0 0 Q (F0 m 62 ls [.int w0]) := by
    intro back_28 K_28 x1 x2 x3 x5 w0 v_hand_shown H locs ls hP hD hS hl hf
    unfold f_PR_under_62 at hf
    refine lv_istore (lv' := [(4, .int w0), (0, .ref a_p0), (1, .int x1), (2, .int x2), (3, .int x3), (5, .int x5)]) hx hb d_PR_under_62 hl (by decide) rfl (fun ls hl => ?_)
    exact B_64 back_28 K_28 x1 x2 x3 w0 x5 v_hand_shown _ _ _ hP hD hS (lv_sub hl [1, 2, 3, 4, 0, 5] rfl) hf
  have B_28 : ∀  (n : Nat) (x1 : Int32) (x2 : Int32) (x3 : Int32) (x4 : Int32) (x5 : Int32) (v_hand_shown : Nat → Int32) (H : Heap) (locs : List Loc) (ls : Array Slot), va_P D classes (cs_PR_under cI cZ a_p0 a_hall a_hall_layers a_hall_kinds a_hall_wanted a_now a_now_off a_hand a_hand_shown a_seen a_seen_rows z_text z_trial z_acts z_slots z_hall_patiences z_now_waited v_actCount v_slotsKept v_seed v_hall_count v_hall_layers v_hall_kinds v_hall_wanted v_now_nights v_now_off v_hand_shown v_seen_count v_seen_rows) H → va_D A (cs_PR_under cI cZ a_p0 a_hall a_hall_layers a_hall_kinds a_hall_wanted a_now a_now_off a_hand a_hand_shown a_seen a_seen_rows z_text z_trial z_acts z_slots z_hall_patiences z_now_waited v_actCount v_slotsKept v_seed v_hall_count v_hall_layers v_hall_kinds v_hall_wanted v_now_nights v_now_off v_hand_shown v_seen_count v_seen_rows) → va_S A s.heap H locs → lv_has ls 6 [(0, .ref a_p0), (1, .int x1), (2, .int x2), (3, .int x3), (4, .int x4), (5, .int x5)] → f_PR_under_28  v_hall_count v_hall_layers v_hall_kinds v_hall_wanted v_now_off v_seen_count v_seen_rows n x1 x2 x3 x4 x5 v_hand_shown = some res → W p l e (rm_ 4 (40 * 4)) s m args below meth c H locs 0 0 Q (F0 m 28 ls []) := by
    intro  n
    induction n with
    | zero => intro x1 x2 x3 x4 x5 v_hand_shown H locs ls hP hD hS hl hf; exact nomatch hf
    | succ n ih =>
      intro x1 x2 x3 x4 x5 v_hand_shown H locs ls hP hD hS hl hf
      have hf : f_PR_under_28_b  (f_PR_under_28  v_hall_count v_hall_layers v_hall_kinds v_hall_wanted v_now_off v_seen_count v_seen_rows n) v_hall_count v_hall_layers v_hall_kinds v_hall_wanted v_now_off v_seen_count v_seen_rows x1 x2 x3 x4 x5 v_hand_shown = some res := hf
      generalize f_PR_under_28  v_hall_count v_hall_layers v_hall_kinds v_hall_wanted v_now_off v_seen_count v_seen_rows n = back_28 at ih hf
      have K_28 := ih
      unfold f_PR_under_28_b at hf
      refine lv_iload hx hb d_PR_under_28 (lv_at hl 5 rfl) ?_
      refine lv_bipush (v := 27) hx hb d_PR_under_30 (by decide) ?_
      refine lv_icmp_ge (tgt := 70) hx hb d_PR_under_32 (by decide) (fun c1 => ?_) (fun c1 => ?_)
      · have hf := o_pos c1 hf
        refine lv_iload_n hx hb d_PR_under_70 rfl (lv_at hl 2 rfl) ?_
        refine lv_if_ne (tgt := 78) hx hb d_PR_under_71 (by decide) (fun c2 => ?_) (fun c2 => ?_)
        · have hf := o_neg c2 hf
          refine lv_iload hx hb d_PR_under_78 (lv_at hl 4 rfl) ?_
          exact B_80 x4 v_hand_shown _ _ _ hP hD hS (lv_sub hl [] rfl) hf
        · have hf := o_pos c2 hf
          refine lv_iload_n hx hb d_PR_under_74 rfl (lv_at hl 3 rfl) ?_
          refine lv_goto (tgt := 80) hx hb d_PR_under_75 (by decide) ?_
          exact B_80 x3 v_hand_shown _ _ _ hP hD hS (lv_sub hl [] rfl) hf
      · have hf := o_neg c1 hf
        refine lv_aload_n hx hb d_PR_under_35 rfl (lv_at hl 0 rfl) ?_
        refine lv_iload_n hx hb d_PR_under_36 rfl (lv_at hl 1 rfl) ?_
        refine lv_iload hx hb d_PR_under_37 (lv_at hl 5 rfl) ?_
        obtain ⟨r3, h4, hf⟩ := o_bind hf
        refine cVi (rest := []) (wr := []) (wn := (cs_PR_under cI cZ a_p0 a_hall a_hall_layers a_hall_kinds a_hall_wanted a_now a_now_off a_hand a_hand_shown a_seen a_seen_rows z_text z_trial z_acts z_slots z_hall_patiences z_now_waited v_actCount v_slotsKept v_seed v_hall_count v_hall_layers v_hall_kinds v_hall_wanted v_now_nights v_now_off r3.2 v_seen_count v_seen_rows)) (c_PR_isAsSeen l D cI cZ a_p0 a_hall a_hall_layers a_hall_kinds a_hall_wanted a_now a_now_off a_hand a_hand_shown a_seen a_seen_rows z_text z_trial z_acts z_slots z_hall_patiences z_now_waited x1 x5 v_actCount v_slotsKept v_seed v_hall_count v_hall_layers v_hall_kinds v_hall_wanted v_now_nights v_now_off v_hand_shown v_seen_count v_seen_rows r3 h4) hC hA hP hD hS hl.1 cw_PR_216 0 rfl rfl rfl ⟨Nat.le_of_ble_eq_true rfl, Nat.le_of_ble_eq_true rfl⟩ rfl rfl (Nat.le_of_ble_eq_true rfl) d_PR_under_39 ⟨Nat.zero_le _, Nat.zero_le _⟩ [0, 1, 2, 3, 4, 5, 6, 7, 8, 9, 10] [] [0, 1, 2, 3, 4, 5, 6, 7, 8, 9, 10] (by decide) (Cut_mk rfl rfl (by decide) (by decide) (by decide) rfl) (fun H locs hP hD hS => ?_)
        refine lv_if_eq (tgt := 64) hx hb d_PR_under_42 (by decide) (fun c5 => ?_) (fun c5 => ?_)
        · have hf := o_pos c5 hf
          exact B_64 back_28 K_28 x1 x2 x3 x4 x5 r3.2 _ _ _ hP hD hS (lv_sub hl [0, 1, 2, 3, 4, 5] rfl) hf
        · have hf := o_neg c5 hf
          refine lv_iinc (v := x3 + 1) (lv' := [(3, .int (x3 + 1)), (0, .ref a_p0), (1, .int x1), (2, .int x2), (4, .int x4), (5, .int x5)]) hx hb d_PR_under_45 hl (k := 3) rfl (rfl) (by decide) rfl (fun ls hl => ?_)
          refine lv_iload hx hb d_PR_under_48 (lv_at hl 4 rfl) ?_
          refine lv_bipush (v := (-9)) hx hb d_PR_under_50 (by decide) ?_
          refine lv_icmp_ne (tgt := 60) hx hb d_PR_under_52 (by decide) (fun c6 => ?_) (fun c6 => ?_)
          · have hf := o_neg c6 hf
            refine lv_iload hx hb d_PR_under_60 (lv_at hl 4 rfl) ?_
            exact B_62 back_28 K_28 x1 x2 (x3 + 1) x5 x4 r3.2 _ _ _ hP hD hS (lv_sub hl [1, 2, 3, 0, 5] rfl) hf
          · have hf := o_pos c6 hf
            refine lv_iload hx hb d_PR_under_55 (lv_at hl 5 rfl) ?_
            refine lv_goto (tgt := 62) hx hb d_PR_under_57 (by decide) ?_
            exact B_62 back_28 K_28 x1 x2 (x3 + 1) x5 x5 r3.2 _ _ _ hP hD hS (lv_sub hl [1, 2, 3, 0, 5] rfl) hf
  unfold f_PR_under at hf
  have E : ∀ (H : Heap) (locs : List Loc), va_P D classes (cs_PR_under cI cZ a_p0 a_hall a_hall_layers a_hall_kinds a_hall_wanted a_now a_now_off a_hand a_hand_shown a_seen a_seen_rows z_text z_trial z_acts z_slots z_hall_patiences z_now_waited v_actCount v_slotsKept v_seed v_hall_count v_hall_layers v_hall_kinds v_hall_wanted v_now_nights v_now_off v_hand_shown v_seen_count v_seen_rows) H → va_S A s.heap H locs → W p l e (rm_ 4 (40 * 4)) s m args below meth c H locs 0 0 Q (F0 m 0 ls []) := by
    intro H locs hP hS
    refine lv_iload_n hx hb d_PR_under_0 rfl (lv_at hl 1 rfl) ?_
    obtain ⟨r1, h2, hf⟩ := o_bind hf
    refine cSi0 (rest := []) (c_PR_isFinger l D cI cZ i1 r1 h2) hC hA hP hD hS hl.1 cw_PR_105 ⟨Nat.le_of_ble_eq_true rfl, Nat.le_of_ble_eq_true rfl⟩ rfl rfl (Nat.le_of_ble_eq_true rfl) d_PR_under_1 ⟨Nat.zero_le _, Nat.zero_le _⟩ (fun H locs hP hS => ?_)
    refine lv_if_ne (tgt := 9) hx hb d_PR_under_4 (by decide) (fun c3 => ?_) (fun c3 => ?_)
    · have hf := o_neg c3 hf
      refine lv_iload_n hx hb d_PR_under_9 rfl (lv_at hl 2 rfl) ?_
      obtain ⟨r4, h5, hf⟩ := o_bind hf
      refine cSi0 (rest := []) (c_PR_isOneOfTwo l D cI cZ i2 r4 h5) hC hA hP hD hS hl.1 cw_PR_171 ⟨Nat.le_of_ble_eq_true rfl, Nat.le_of_ble_eq_true rfl⟩ rfl rfl (Nat.le_of_ble_eq_true rfl) d_PR_under_10 ⟨Nat.zero_le _, Nat.zero_le _⟩ (fun H locs hP hS => ?_)
      refine lv_if_ne (tgt := 19) hx hb d_PR_under_13 (by decide) (fun c6 => ?_) (fun c6 => ?_)
      · have hf := o_neg c6 hf
        refine lv_iconst (v := 0) hx hb d_PR_under_19 (by decide) ?_
        refine lv_istore_n (lv' := [(3, .int 0), (0, .ref a_p0), (1, .int i1), (2, .int i2)]) hx hb d_PR_under_20 rfl hl (by decide) rfl (fun ls hl => ?_)
        refine lv_bipush (v := (-9)) hx hb d_PR_under_21 (by decide) ?_
        refine lv_istore (lv' := [(4, .int ((-9))), (3, .int 0), (0, .ref a_p0), (1, .int i1), (2, .int i2)]) hx hb d_PR_under_23 hl (by decide) rfl (fun ls hl => ?_)
        refine lv_iconst (v := 0) hx hb d_PR_under_25 (by decide) ?_
        refine lv_istore (lv' := [(5, .int 0), (4, .int ((-9))), (3, .int 0), (0, .ref a_p0), (1, .int i1), (2, .int i2)]) hx hb d_PR_under_26 hl (by decide) rfl (fun ls hl => ?_)
        exact B_28 300 i1 i2 0 ((-9)) 0 v_hand_shown _ _ _ hP hD hS (lv_sub hl [3, 4, 5, 2, 1, 0] rfl) hf
      · have hf := o_pos c6 hf
        refine lv_bipush (v := (-2)) hx hb d_PR_under_16 (by decide) ?_
        have hr := Option.some.inj hf
        exact RET _ _ _ _ _ _ rfl (congrArg (fun r : Int32 × (Nat → Int32) => r.1) hr) (congrArg (fun r : Int32 × (Nat → Int32) => (cs_PR_under cI cZ a_p0 a_hall a_hall_layers a_hall_kinds a_hall_wanted a_now a_now_off a_hand a_hand_shown a_seen a_seen_rows z_text z_trial z_acts z_slots z_hall_patiences z_now_waited v_actCount v_slotsKept v_seed v_hall_count v_hall_layers v_hall_kinds v_hall_wanted v_now_nights v_now_off r.2 v_seen_count v_seen_rows)) hr) hP hD hS d_PR_under_18
    · have hf := o_pos c3 hf
      refine lv_iconst (v := (-1)) hx hb d_PR_under_7 (by decide) ?_
      have hr := Option.some.inj hf
      exact RET _ _ _ _ _ _ rfl (congrArg (fun r : Int32 × (Nat → Int32) => r.1) hr) (congrArg (fun r : Int32 × (Nat → Int32) => (cs_PR_under cI cZ a_p0 a_hall a_hall_layers a_hall_kinds a_hall_wanted a_now a_now_off a_hand a_hand_shown a_seen a_seen_rows z_text z_trial z_acts z_slots z_hall_patiences z_now_waited v_actCount v_slotsKept v_seed v_hall_count v_hall_layers v_hall_kinds v_hall_wanted v_now_nights v_now_off r.2 v_seen_count v_seen_rows)) hr) hP hD hS d_PR_under_8
  exact E _ _ hP hS
set_option maxHeartbeats 4000000 in
set_option maxRecDepth 100000 in
theorem c_PR_gain (l : Launch) (D : va_G) (cI cZ : ClassId) (i0 : Int32) (i1 : Int32) (i2 : Int32) (res : Int32) (hf : f_PR_gain i0 i1 i2 = some res) : CtI l y_PR_gain b_PR_gain 4 (some .int) 0 D cI cZ [.int i0, .int i1, .int i2] [] res [] := by
  refine CtI_mk (by decide) (Nat.le_of_ble_eq_true rfl) ?_
  intro p e s m args below meth c A Q hC hA hP hD RET ls hl
  have hC : Cx p s m args meth c b_PR_gain 4 R_PR D cI cZ := hC
  have hl : lv_has ls 4 [(0, .int i0), (1, .int i1), (2, .int i2)] := hl
  obtain ⟨hx, hb, hml, hown, hts, hlk, hKK⟩ := id hC
  have hS : va_S A s.heap s.heap [] := va_S.rf
  have B_24 : ∀  (w0 : Int32) (H : Heap) (locs : List Loc) (ls : Array Slot), va_P D classes [] H → va_D A [] → va_S A s.heap H locs → lv_has ls 4 [] → f_PR_gain_24   w0 = some res → W p l e (rm_ 0 (40 * 0)) s m args below meth c H locs 0 0 Q (F0 m 24 ls [.int w0]) := by
    intro  w0 H locs ls hP hD hS hl hf
    unfold f_PR_gain_24 at hf
    have hr := Option.some.inj hf
    exact RET _ _ _ _ _ _ rfl (congrArg (fun r : Int32 => r) hr) rfl hP hD hS d_PR_gain_24
  have B_10 : ∀  (x1 : Int32) (x2 : Int32) (w0 : Int32) (H : Heap) (locs : List Loc) (ls : Array Slot), va_P D classes [] H → va_D A [] → va_S A s.heap H locs → lv_has ls 4 [(1, .int x1), (2, .int x2)] → f_PR_gain_10   x1 x2 w0 = some res → W p l e (rm_ 0 (40 * 0)) s m args below meth c H locs 0 0 Q (F0 m 10 ls [.int w0]) := by
    intro  x1 x2 w0 H locs ls hP hD hS hl hf
    unfold f_PR_gain_10 at hf
    refine lv_istore_n (lv' := [(3, .int w0), (1, .int x1), (2, .int x2)]) hx hb d_PR_gain_10 rfl hl (by decide) rfl (fun ls hl => ?_)
    refine lv_iload_n hx hb d_PR_gain_11 rfl (lv_at hl 1 rfl) ?_
    refine lv_iload_n hx hb d_PR_gain_12 rfl (lv_at hl 2 rfl) ?_
    refine lv_icmp_le (tgt := 22) hx hb d_PR_gain_13 (by decide) (fun c1 => ?_) (fun c1 => ?_)
    · have hf := o_pos c1 hf
      refine lv_iload_n hx hb d_PR_gain_22 rfl (lv_at hl 1 rfl) ?_
      refine lv_ineg hx hb d_PR_gain_23 ?_
      exact B_24 (-x1) _ _ _ hP hD hS (lv_sub hl [] rfl) hf
    · have hf := o_neg c1 hf
      refine lv_iload_n hx hb d_PR_gain_16 rfl (lv_at hl 0 rfl) ?_
      refine lv_iload_n hx hb d_PR_gain_17 rfl (lv_at hl 1 rfl) ?_
      refine lv_isub hx hb d_PR_gain_18 ?_
      refine lv_goto (tgt := 24) hx hb d_PR_gain_19 (by decide) ?_
      exact B_24 (w0 - x1) _ _ _ hP hD hS (lv_sub hl [] rfl) hf
  unfold f_PR_gain at hf
  have E : ∀ (H : Heap) (locs : List Loc), va_P D classes [] H → va_S A s.heap H locs → W p l e (rm_ 0 (40 * 0)) s m args below meth c H locs 0 0 Q (F0 m 0 ls []) := by
    intro H locs hP hS
    refine lv_iload_n hx hb d_PR_gain_0 rfl (lv_at hl 0 rfl) ?_
    refine lv_iconst (v := 2) hx hb d_PR_gain_1 (by decide) ?_
    refine lv_icmp_ne (tgt := 9) hx hb d_PR_gain_2 (by decide) (fun c1 => ?_) (fun c1 => ?_)
    · have hf := o_neg c1 hf
      refine lv_iconst (v := 4) hx hb d_PR_gain_9 (by decide) ?_
      exact B_10 i1 i2 4 _ _ _ hP hD hS (lv_sub hl [1, 2] rfl) hf
    · have hf := o_pos c1 hf
      refine lv_iconst (v := 5) hx hb d_PR_gain_5 (by decide) ?_
      refine lv_goto (tgt := 10) hx hb d_PR_gain_6 (by decide) ?_
      exact B_10 i1 i2 5 _ _ _ hP hD hS (lv_sub hl [1, 2] rfl) hf
  exact E _ _ hP hS
set_option maxHeartbeats 4000000 in
set_option maxRecDepth 100000 in
theorem c_PR_isBestWait (l : Launch) (D : va_G) (cI cZ : ClassId) (i0 : Int32) (i1 : Int32) (i2 : Int32) (res : Int32) (hf : f_PR_isBestWait i0 i1 i2 = some res) : CtI l y_PR_isBestWait b_PR_isBestWait 4 (some .boolean) 1 D cI cZ [.int i0, .int i1, .int i2] [] res [] := by
  refine CtI_mk (by decide) (Nat.le_of_ble_eq_true rfl) ?_
  intro p e s m args below meth c A Q hC hA hP hD RET ls hl
  have hC : Cx p s m args meth c b_PR_isBestWait 4 R_PR D cI cZ := hC
  have hl : lv_has ls 4 [(0, .int i0), (1, .int i1), (2, .int i2)] := hl
  obtain ⟨hx, hb, hml, hown, hts, hlk, hKK⟩ := id hC
  have hS : va_S A s.heap s.heap [] := va_S.rf
  have B_2 : ∀  (n : Nat) (x0 : Int32) (x1 : Int32) (x2 : Int32) (x3 : Int32) (H : Heap) (locs : List Loc) (ls : Array Slot), va_P D classes [] H → va_D A [] → va_S A s.heap H locs → lv_has ls 4 [(0, .int x0), (1, .int x1), (2, .int x2), (3, .int x3)] → f_PR_isBestWait_2   n x0 x1 x2 x3 = some res → W p l e (rm_ 1 (40 * 1)) s m args below meth c H locs 0 0 Q (F0 m 2 ls []) := by
    intro  n
    induction n with
    | zero => intro x0 x1 x2 x3 H locs ls hP hD hS hl hf; exact nomatch hf
    | succ n ih =>
      intro x0 x1 x2 x3 H locs ls hP hD hS hl hf
      have hf : f_PR_isBestWait_2_b  (f_PR_isBestWait_2   n)  x0 x1 x2 x3 = some res := hf
      generalize f_PR_isBestWait_2   n = back_2 at ih hf
      have K_2 := ih
      unfold f_PR_isBestWait_2_b at hf
      refine lv_iload_n hx hb d_PR_isBestWait_2 rfl (lv_at hl 3 rfl) ?_
      refine lv_iconst (v := 4) hx hb d_PR_isBestWait_3 (by decide) ?_
      refine lv_icmp_ge (tgt := 30) hx hb d_PR_isBestWait_4 (by decide) (fun c1 => ?_) (fun c1 => ?_)
      · have hf := o_pos c1 hf
        refine lv_iconst (v := 1) hx hb d_PR_isBestWait_30 (by decide) ?_
        have hr := Option.some.inj hf
        exact RET _ _ _ _ _ _ rfl (congrArg (fun r : Int32 => r) hr) rfl hP hD hS d_PR_isBestWait_31
      · have hf := o_neg c1 hf
        refine lv_iload_n hx hb d_PR_isBestWait_7 rfl (lv_at hl 0 rfl) ?_
        refine lv_iload_n hx hb d_PR_isBestWait_8 rfl (lv_at hl 3 rfl) ?_
        refine lv_iload_n hx hb d_PR_isBestWait_9 rfl (lv_at hl 2 rfl) ?_
        obtain ⟨r2, h3, hf⟩ := o_bind hf
        refine cSi0 (rest := []) (c_PR_gain l D cI cZ x0 x3 x2 r2 h3) hC hA hP hD hS hl.1 cw_PR_261 ⟨Nat.le_of_ble_eq_true rfl, Nat.le_of_ble_eq_true rfl⟩ rfl rfl (Nat.le_of_ble_eq_true rfl) d_PR_isBestWait_10 ⟨Nat.zero_le _, Nat.zero_le _⟩ (fun H locs hP hS => ?_)
        refine lv_iload_n hx hb d_PR_isBestWait_13 rfl (lv_at hl 0 rfl) ?_
        refine lv_iload_n hx hb d_PR_isBestWait_14 rfl (lv_at hl 1 rfl) ?_
        refine lv_iload_n hx hb d_PR_isBestWait_15 rfl (lv_at hl 2 rfl) ?_
        obtain ⟨r4, h5, hf⟩ := o_bind hf
        refine cSi0 (rest := [.int r2]) (c_PR_gain l D cI cZ x0 x1 x2 r4 h5) hC hA hP hD hS hl.1 cw_PR_261 ⟨Nat.le_of_ble_eq_true rfl, Nat.le_of_ble_eq_true rfl⟩ rfl rfl (Nat.le_of_ble_eq_true rfl) d_PR_isBestWait_16 ⟨Nat.zero_le _, Nat.zero_le _⟩ (fun H locs hP hS => ?_)
        refine lv_icmp_le (tgt := 24) hx hb d_PR_isBestWait_19 (by decide) (fun c6 => ?_) (fun c6 => ?_)
        · have hf := o_pos c6 hf
          refine lv_iinc (v := x3 + 1) (lv' := [(3, .int (x3 + 1)), (0, .int x0), (1, .int x1), (2, .int x2)]) hx hb d_PR_isBestWait_24 hl (k := 3) rfl (rfl) (by decide) rfl (fun ls hl => ?_)
          refine lv_goto (tgt := 2) hx hb d_PR_isBestWait_27 (by decide) ?_
          exact K_2 x0 x1 x2 (x3 + 1) _ _ _ hP hD hS (lv_sub hl [1, 2, 3, 0] rfl) hf
        · have hf := o_neg c6 hf
          refine lv_iconst (v := 0) hx hb d_PR_isBestWait_22 (by decide) ?_
          have hr := Option.some.inj hf
          exact RET _ _ _ _ _ _ rfl (congrArg (fun r : Int32 => r) hr) rfl hP hD hS d_PR_isBestWait_23
  unfold f_PR_isBestWait at hf
  have E : ∀ (H : Heap) (locs : List Loc), va_P D classes [] H → va_S A s.heap H locs → W p l e (rm_ 1 (40 * 1)) s m args below meth c H locs 0 0 Q (F0 m 0 ls []) := by
    intro H locs hP hS
    refine lv_iconst (v := 0) hx hb d_PR_isBestWait_0 (by decide) ?_
    refine lv_istore_n (lv' := [(3, .int 0), (0, .int i0), (1, .int i1), (2, .int i2)]) hx hb d_PR_isBestWait_1 rfl hl (by decide) rfl (fun ls hl => ?_)
    exact B_2 300 i0 i1 i2 0 _ _ _ hP hD hS (lv_sub hl [1, 2, 3, 0] rfl) hf
  exact E _ _ hP hS
set_option maxHeartbeats 4000000 in
set_option maxRecDepth 100000 in
theorem c_PR_rests (l : Launch) (D : va_G) (cI cZ : ClassId) (a_p0 a_hall a_hall_kinds z_text z_now z_trial z_hand z_acts z_slots z_seen z_hall_layers z_hall_patiences z_hall_wanted : Nat) (i1 : Int32) (i2 : Int32) (i3 : Int32) (v_actCount : Int32) (v_slotsKept : Int32) (v_seed : Int64) (v_hall_count : Int32) (v_hall_kinds : Nat → Int32) (res : Int32) (hf : f_PR_rests i1 i2 i3 v_hall_count v_hall_kinds = some res) : CtI l y_PR_rests b_PR_rests 8 (some .int) 2 D cI cZ [.ref a_p0, .int i1, .int i2, .int i3] (cs_PR_rests cI cZ a_p0 a_hall a_hall_kinds z_text z_now z_trial z_hand z_acts z_slots z_seen z_hall_layers z_hall_patiences z_hall_wanted v_actCount v_slotsKept v_seed v_hall_count v_hall_kinds) res (cs_PR_rests cI cZ a_p0 a_hall a_hall_kinds z_text z_now z_trial z_hand z_acts z_slots z_seen z_hall_layers z_hall_patiences z_hall_wanted v_actCount v_slotsKept v_seed v_hall_count v_hall_kinds) := by
  refine CtI_mk (by decide) (Nat.le_of_ble_eq_true rfl) ?_
  intro p e s m args below meth c A Q hC hA hP hD RET ls hl
  have hC : Cx p s m args meth c b_PR_rests 8 R_PR D cI cZ := hC
  have hl : lv_has ls 8 [(0, .ref a_p0), (1, .int i1), (2, .int i2), (3, .int i3)] := hl
  obtain ⟨hx, hb, hml, hown, hts, hlk, hKK⟩ := id hC
  have hS : va_S A s.heap s.heap [] := va_S.rf
  have B_22 : ∀   (H : Heap) (locs : List Loc) (ls : Array Slot), va_P D classes (cs_PR_rests cI cZ a_p0 a_hall a_hall_kinds z_text z_now z_trial z_hand z_acts z_slots z_seen z_hall_layers z_hall_patiences z_hall_wanted v_actCount v_slotsKept v_seed v_hall_count v_hall_kinds) H → va_D A (cs_PR_rests cI cZ a_p0 a_hall a_hall_kinds z_text z_now z_trial z_hand z_acts z_slots z_seen z_hall_layers z_hall_patiences z_hall_wanted v_actCount v_slotsKept v_seed v_hall_count v_hall_kinds) → va_S A s.heap H locs → lv_has ls 8 [] → f_PR_rests_22  v_hall_count v_hall_kinds  = some res → W p l e (rm_ 2 (40 * 2)) s m args below meth c H locs 0 0 Q (F0 m 22 ls []) := by
    intro   H locs ls hP hD hS hl hf
    unfold f_PR_rests_22 at hf
    refine lv_iconst (v := (-1)) hx hb d_PR_rests_22 (by decide) ?_
    have hr := Option.some.inj hf
    exact RET _ _ _ _ _ _ rfl (congrArg (fun r : Int32 => r) hr) rfl hP hD hS d_PR_rests_23
  have B_36 : ∀   (H : Heap) (locs : List Loc) (ls : Array Slot), va_P D classes (cs_PR_rests cI cZ a_p0 a_hall a_hall_kinds z_text z_now z_trial z_hand z_acts z_slots z_seen z_hall_layers z_hall_patiences z_hall_wanted v_actCount v_slotsKept v_seed v_hall_count v_hall_kinds) H → va_D A (cs_PR_rests cI cZ a_p0 a_hall a_hall_kinds z_text z_now z_trial z_hand z_acts z_slots z_seen z_hall_layers z_hall_patiences z_hall_wanted v_actCount v_slotsKept v_seed v_hall_count v_hall_kinds) → va_S A s.heap H locs → lv_has ls 8 [] → f_PR_rests_36  v_hall_count v_hall_kinds  = some res → W p l e (rm_ 2 (40 * 2)) s m args below meth c H locs 0 0 Q (F0 m 36 ls []) := by
    intro   H locs ls hP hD hS hl hf
    unfold f_PR_rests_36 at hf
    refine lv_bipush (v := (-2)) hx hb d_PR_rests_36 (by decide) ?_
    have hr := Option.some.inj hf
    exact RET _ _ _ _ _ _ rfl (congrArg (fun r : Int32 => r) hr) rfl hP hD hS d_PR_rests_38
  have B_148 : ∀  (w0 : Int32) (H : Heap) (locs : List Loc) (ls : Array Slot), va_P D classes (cs_PR_rests cI cZ a_p0 a_hall a_hall_kinds z_text z_now z_trial z_hand z_acts z_slots z_seen z_hall_layers z_hall_patiences z_hall_wanted v_actCount v_slotsKept v_seed v_hall_count v_hall_kinds) H → va_D A (cs_PR_rests cI cZ a_p0 a_hall a_hall_kinds z_text z_now z_trial z_hand z_acts z_slots z_seen z_hall_layers z_hall_patiences z_hall_wanted v_actCount v_slotsKept v_seed v_hall_count v_hall_kinds) → va_S A s.heap H locs → lv_has ls 8 [] → f_PR_rests_148  v_hall_count v_hall_kinds w0 = some res → W p l e (rm_ 2 (40 * 2)) s m args below meth c H locs 0 0 Q (F0 m 148 ls [.int w0]) := by
    intro  w0 H locs ls hP hD hS hl hf
    unfold f_PR_rests_148 at hf
    have hr := Option.some.inj hf
    exact RET _ _ _ _ _ _ rfl (congrArg (fun r : Int32 => r) hr) rfl hP hD hS d_PR_rests_148
  have B_125 : ∀ (back_49 : Int32 → Int32 → Int32 → Int32 → Int32 → Int32 → Option Int32) (K_49 : ∀ (x1 : Int32) (x2 : Int32) (x3 : Int32) (x4 : Int32) (x5 : Int32) (x6 : Int32) (H : Heap) (locs : List Loc) (ls : Array Slot), va_P D classes (cs_PR_rests cI cZ a_p0 a_hall a_hall_kinds z_text z_now z_trial z_hand z_acts z_slots z_seen z_hall_layers z_hall_patiences z_hall_wanted v_actCount v_slotsKept v_seed v_hall_count v_hall_kinds) H → va_D A (cs_PR_rests cI cZ a_p0 a_hall a_hall_kinds z_text z_now z_trial z_hand z_acts z_slots z_seen z_hall_layers z_hall_patiences z_hall_wanted v_actCount v_slotsKept v_seed v_hall_count v_hall_kinds) → va_S A s.heap H locs → lv_has ls 8 [(0, .ref a_p0), (1, .int x1), (2, .int x2), (3, .int x3), (4, .int x4), (5, .int x5), (6, .int x6)] → back_49 x1 x2 x3 x4 x5 x6 = some res → W p l e (rm_ 2 (40 * 2)) s m args below meth c H locs 0 0 Q (F0 m 49 ls [])) (back_58 : Int32 → Int32 → Int32 → Int32 → Int32 → Int32 → Int32 → Option Int32) (K_58 : ∀ (x1 : Int32) (x2 : Int32) (x3 : Int32) (x4 : Int32) (x5 : Int32) (x6 : Int32) (x7 : Int32) (H : Heap) (locs : List Loc) (ls : Array Slot), va_P D classes (cs_PR_rests cI cZ a_p0 a_hall a_hall_kinds z_text z_now z_trial z_hand z_acts z_slots z_seen z_hall_layers z_hall_patiences z_hall_wanted v_actCount v_slotsKept v_seed v_hall_count v_hall_kinds) H → va_D A (cs_PR_rests cI cZ a_p0 a_hall a_hall_kinds z_text z_now z_trial z_hand z_acts z_slots z_seen z_hall_layers z_hall_patiences z_hall_wanted v_actCount v_slotsKept v_seed v_hall_count v_hall_kinds) → va_S A s.heap H locs → lv_has ls 8 [(0, .ref a_p0), (1, .int x1), (2, .int x2), (3, .int x3), (4, .int x4), (5, .int x5), (6, .int x6), (7, .int x7)] → back_58 x1 x2 x3 x4 x5 x6 x7 = some res → W p l e (rm_ 2 (40 * 2)) s m args below meth c H locs 0 0 Q (F0 m 58 ls [])) (x1 : Int32) (x2 : Int32) (x3 : Int32) (x4 : Int32) (x5 : Int32) (x6 : Int32) (x7 : Int32) (H : Heap) (locs : List Loc) (ls : Array Slot), va_P D classes (cs_PR_rests cI cZ a_p0 a_hall a_hall_kinds z_text z_now z_trial z_hand z_acts z_slots z_seen z_hall_layers z_hall_patiences z_hall_wanted v_actCount v_slotsKept v_seed v_hall_count v_hall_kinds) H → va_D A (cs_PR_rests cI cZ a_p0 a_hall a_hall_kinds z_text z_now z_trial z_hand z_acts z_slots z_seen z_hall_layers z_hall_patiences z_hall_wanted v_actCount v_slotsKept v_seed v_hall_count v_hall_kinds) → va_S A s.heap H locs → lv_has ls 8 [(0, .ref a_p0), (1, .int x1), (2, .int x2), (3, .int x3), (4, .int x4), (5, .int x5), (6, .int x6), (7, .int x7)] → f_PR_rests_125 back_49 back_58 v_hall_count v_hall_kinds x1 x2 x3 x4 x5 x6 x7 = some res → W p l e (rm_ 2 (40 * 2)) s m args below meth c H locs 0 0 Q (F0 m 125 ls []) := by
    intro back_49 K_49 back_58 K_58 x1 x2 x3 x4 x5 x6 x7 H locs ls hP hD hS hl hf
    unfold f_PR_rests_125 at hf
    refine lv_iinc (v := x7 + 1) (lv' := [(7, .int (x7 + 1)), (0, .ref a_p0), (1, .int x1), (2, .int x2), (3, .int x3), (4, .int x4), (5, .int x5), (6, .int x6)]) hx hb d_PR_rests_125 hl (k := 7) rfl (rfl) (by decide) rfl (fun ls hl => ?_)
    refine lv_goto (tgt := 58) hx hb d_PR_rests_128 (by decide) ?_
    exact K_58 x1 x2 x3 x4 x5 x6 (x7 + 1) _ _ _ hP hD hS (lv_sub hl [1, 2, 3, 4, 5, 6, 7, 0] rfl) hf
  have B_123 : ∀ (back_49 : Int32 → Int32 → Int32 → Int32 → Int32 → Int32 → Option Int32) (K_49 : ∀ (x1 : Int32) (x2 : Int32) (x3 : Int32) (x4 : Int32) (x5 : Int32) (x6 : Int32) (H : Heap) (locs : List Loc) (ls : Array Slot), va_P D classes (cs_PR_rests cI cZ a_p0 a_hall a_hall_kinds z_text z_now z_trial z_hand z_acts z_slots z_seen z_hall_layers z_hall_patiences z_hall_wanted v_actCount v_slotsKept v_seed v_hall_count v_hall_kinds) H → va_D A (cs_PR_rests cI cZ a_p0 a_hall a_hall_kinds z_text z_now z_trial z_hand z_acts z_slots z_seen z_hall_layers z_hall_patiences z_hall_wanted v_actCount v_slotsKept v_seed v_hall_count v_hall_kinds) → va_S A s.heap H locs → lv_has ls 8 [(0, .ref a_p0), (1, .int x1), (2, .int x2), (3, .int x3), (4, .int x4), (5, .int x5), (6, .int x6)] → back_49 x1 x2 x3 x4 x5 x6 = some res → W p l e (rm_ 2 (40 * 2)) s m args below meth c H locs 0 0 Q (F0 m 49 ls [])) (back_58 : Int32 → Int32 → Int32 → Int32 → Int32 → Int32 → Int32 → Option Int32) (K_58 : ∀ (x1 : Int32) (x2 : Int32) (x3 : Int32) (x4 : Int32) (x5 : Int32) (x6 : Int32) (x7 : Int32) (H : Heap) (locs : List Loc) (ls : Array Slot), va_P D classes (cs_PR_rests cI cZ a_p0 a_hall a_hall_kinds z_text z_now z_trial z_hand z_acts z_slots z_seen z_hall_layers z_hall_patiences z_hall_wanted v_actCount v_slotsKept v_seed v_hall_count v_hall_kinds) H → va_D A (cs_PR_rests cI cZ a_p0 a_hall a_hall_kinds z_text z_now z_trial z_hand z_acts z_slots z_seen z_hall_layers z_hall_patiences z_hall_wanted v_actCount v_slotsKept v_seed v_hall_count v_hall_kinds) → va_S A s.heap H locs → lv_has ls 8 [(0, .ref a_p0), (1, .int x1), (2, .int x2), (3, .int x3), (4, .int x4), (5, .int x5), (6, .int x6), (7, .int x7)] → back_58 x1 x2 x3 x4 x5 x6 x7 = some res → W p l e (rm_ 2 (40 * 2)) s m args below meth c H locs 0 0 Q (F0 m 58 ls [])) (x1 : Int32) (x2 : Int32) (x3 : Int32) (x4 : Int32) (x6 : Int32) (x7 : Int32) (w0 : Int32) (H : Heap) (locs : List Loc) (ls : Array Slot), va_P D classes (cs_PR_rests cI cZ a_p0 a_hall a_hall_kinds z_text z_now z_trial z_hand z_acts z_slots z_seen z_hall_layers z_hall_patiences z_hall_wanted v_actCount v_slotsKept v_seed v_hall_count v_hall_kinds) H → va_D A (cs_PR_rests cI cZ a_p0 a_hall a_hall_kinds z_text z_now z_trial z_hand z_acts z_slots z_seen z_hall_layers z_hall_patiences z_hall_wanted v_actCount v_slotsKept v_seed v_hall_count v_hall_kinds) → va_S A s.heap H locs → lv_has ls 8 [(0, .ref a_p0), (1, .int x1), (2, .int x2), (3, .int x3), (4, .int x4), (6, .int x6), (7, .int x7)] → f_PR_rests_123 back_49 back_58 v_hall_count v_hall_kinds x1 x2 x3 x4 x6 x7 w0 = some res → W p l e (rm_ 2 (40 * 2)) s m args below meth c H locs 0 0 Q (F0 m 123 ls [.int w0]) := by
    intro back_49 K_49 back_58 K_58 x1 x2 x3 x4 x6 x7 w0 H locs ls hP hD hS hl hf
    unfold f_PR_rests_123 at hf
    refine lv_istore (lv' := [(5, .int w0), (0, .ref a_p0), (1, .int x1), (2, .int x2), (3, .int x3), (4, .int x4), (6, .int x6), (7, .int x7)]) hx hb d_PR_rests_123 hl (by decide) rfl (fun ls hl => ?_)
    exact B_125 back_49 K_49 back_58 K_58 x1 x2 x3 x4 w0 x6 x7 _ _ _ hP hD hS (lv_sub hl [1, 2, 3, 4, 5, 0, 6, 7] rfl) hf
  have B_58 : ∀ (back_49 : Int32 → Int32 → Int32 → Int32 → Int32 → Int32 → Option Int32) (K_49 : ∀ (x1 : Int32) (x2 : Int32) (x3 : Int32) (x4 : Int32) (x5 : Int32) (x6 : Int32) (H : Heap) (locs : List Loc) (ls : Array Slot), va_P D classes (cs_PR_rests cI cZ a_p0 a_hall a_hall_kinds z_text z_now z_trial z_hand z_acts z_slots z_seen z_hall_layers z_hall_patiences z_hall_wanted v_actCount v_slotsKept v_seed v_hall_count v_hall_kinds) H → va_D A (cs_PR_rests cI cZ a_p0 a_hall a_hall_kinds z_text z_now z_trial z_hand z_acts z_slots z_seen z_hall_layers z_hall_patiences z_hall_wanted v_actCount v_slotsKept v_seed v_hall_count v_hall_kinds) → va_S A s.heap H locs → lv_has ls 8 [(0, .ref a_p0), (1, .int x1), (2, .int x2), (3, .int x3), (4, .int x4), (5, .int x5), (6, .int x6)] → back_49 x1 x2 x3 x4 x5 x6 = some res → W p l e (rm_ 2 (40 * 2)) s m args below meth c H locs 0 0 Q (F0 m 49 ls [])) (n : Nat) (x1 : Int32) (x2 : Int32) (x3 : Int32) (x4 : Int32) (x5 : Int32) (x6 : Int32) (x7 : Int32) (H : Heap) (locs : List Loc) (ls : Array Slot), va_P D classes (cs_PR_rests cI cZ a_p0 a_hall a_hall_kinds z_text z_now z_trial z_hand z_acts z_slots z_seen z_hall_layers z_hall_patiences z_hall_wanted v_actCount v_slotsKept v_seed v_hall_count v_hall_kinds) H → va_D A (cs_PR_rests cI cZ a_p0 a_hall a_hall_kinds z_text z_now z_trial z_hand z_acts z_slots z_seen z_hall_layers z_hall_patiences z_hall_wanted v_actCount v_slotsKept v_seed v_hall_count v_hall_kinds) → va_S A s.heap H locs → lv_has ls 8 [(0, .ref a_p0), (1, .int x1), (2, .int x2), (3, .int x3), (4, .int x4), (5, .int x5), (6, .int x6), (7, .int x7)] → f_PR_rests_58 back_49 v_hall_count v_hall_kinds n x1 x2 x3 x4 x5 x6 x7 = some res → W p l e (rm_ 2 (40 * 2)) s m args below meth c H locs 0 0 Q (F0 m 58 ls []) := by
    intro back_49 K_49 n
    induction n with
    | zero => intro x1 x2 x3 x4 x5 x6 x7 H locs ls hP hD hS hl hf; exact nomatch hf
    | succ n ih =>
      intro x1 x2 x3 x4 x5 x6 x7 H locs ls hP hD hS hl hf
      have hf : f_PR_rests_58_b back_49 (f_PR_rests_58 back_49 v_hall_count v_hall_kinds n) v_hall_count v_hall_kinds x1 x2 x3 x4 x5 x6 x7 = some res := hf
      generalize f_PR_rests_58 back_49 v_hall_count v_hall_kinds n = back_58 at ih hf
      have K_58 := ih
      unfold f_PR_rests_58_b at hf
      refine lv_iload hx hb d_PR_rests_58 (lv_at hl 7 rfl) ?_
      refine lv_iconst (v := 4) hx hb d_PR_rests_60 (by decide) ?_
      refine lv_icmp_ge (tgt := 131) hx hb d_PR_rests_61 (by decide) (fun c1 => ?_) (fun c1 => ?_)
      · have hf := o_pos c1 hf
        refine lv_iinc (v := x6 + 1) (lv' := [(6, .int (x6 + 1)), (0, .ref a_p0), (1, .int x1), (2, .int x2), (3, .int x3), (4, .int x4), (5, .int x5), (7, .int x7)]) hx hb d_PR_rests_131 hl (k := 6) rfl (rfl) (by decide) rfl (fun ls hl => ?_)
        refine lv_goto (tgt := 49) hx hb d_PR_rests_134 (by decide) ?_
        exact K_49 x1 x2 x3 x4 x5 (x6 + 1) _ _ _ hP hD hS (lv_sub hl [1, 2, 3, 4, 5, 6, 0] rfl) hf
      · have hf := o_neg c1 hf
        refine lv_aload_n hx hb d_PR_rests_64 rfl (lv_at hl 0 rfl) ?_
        refine gf_PR_19 hC hP 0 rfl rfl d_PR_rests_65 ?_
        refine lv_iload_n hx hb d_PR_rests_68 rfl (lv_at hl 1 rfl) ?_
        obtain ⟨r2, h3, hf⟩ := o_bind hf
        refine cVi (rest := []) (wr := [(a_p0, .inr (6, [.ref z_text, .ref a_hall, .ref z_now, .ref z_trial, .ref z_hand, .ref z_acts, .ref z_slots, .ref z_seen, .int v_actCount, .int v_slotsKept, .long v_seed]))]) (wn := (cs_PR_rests cI cZ a_p0 a_hall a_hall_kinds z_text z_now z_trial z_hand z_acts z_slots z_seen z_hall_layers z_hall_patiences z_hall_wanted v_actCount v_slotsKept v_seed v_hall_count v_hall_kinds)) (c_Hall_kind l D cI cZ a_hall a_hall_kinds z_hall_layers z_hall_patiences z_hall_wanted x1 v_hall_count v_hall_kinds r2 h3) hC hA hP hD hS hl.1 cw_PR_122 1 rfl rfl rfl ⟨Nat.le_of_ble_eq_true rfl, Nat.le_of_ble_eq_true rfl⟩ rfl rfl (Nat.le_of_ble_eq_true rfl) d_PR_rests_69 ⟨Nat.zero_le _, Nat.zero_le _⟩ [1, 2] [0] [0, 1, 2] (by decide) (Cut_mk rfl rfl (by decide) (by decide) (by decide) rfl) (fun H locs hP hD hS => ?_)
        refine lv_iload hx hb d_PR_rests_72 (lv_at hl 6 rfl) ?_
        refine lv_iload hx hb d_PR_rests_74 (lv_at hl 7 rfl) ?_
        obtain ⟨r4, h5, hf⟩ := o_bind hf
        refine cSi0 (rest := []) (c_PR_isBestWait l D cI cZ r2 x6 x7 r4 h5) hC hA hP hD hS hl.1 cw_PR_220 ⟨Nat.le_of_ble_eq_true rfl, Nat.le_of_ble_eq_true rfl⟩ rfl rfl (Nat.le_of_ble_eq_true rfl) d_PR_rests_76 ⟨Nat.zero_le _, Nat.zero_le _⟩ (fun H locs hP hS => ?_)
        refine lv_if_eq (tgt := 125) hx hb d_PR_rests_79 (by decide) (fun c6 => ?_) (fun c6 => ?_)
        · have hf := o_pos c6 hf
          exact B_125 back_49 K_49 back_58 K_58 x1 x2 x3 x4 x5 x6 x7 _ _ _ hP hD hS (lv_sub hl [0, 1, 2, 3, 4, 5, 6, 7] rfl) hf
        · have hf := o_neg c6 hf
          refine lv_aload_n hx hb d_PR_rests_82 rfl (lv_at hl 0 rfl) ?_
          refine gf_PR_19 hC hP 0 rfl rfl d_PR_rests_83 ?_
          refine lv_iload_n hx hb d_PR_rests_86 rfl (lv_at hl 2 rfl) ?_
          obtain ⟨r7, h8, hf⟩ := o_bind hf
          refine cVi (rest := []) (wr := [(a_p0, .inr (6, [.ref z_text, .ref a_hall, .ref z_now, .ref z_trial, .ref z_hand, .ref z_acts, .ref z_slots, .ref z_seen, .int v_actCount, .int v_slotsKept, .long v_seed]))]) (wn := (cs_PR_rests cI cZ a_p0 a_hall a_hall_kinds z_text z_now z_trial z_hand z_acts z_slots z_seen z_hall_layers z_hall_patiences z_hall_wanted v_actCount v_slotsKept v_seed v_hall_count v_hall_kinds)) (c_Hall_kind l D cI cZ a_hall a_hall_kinds z_hall_layers z_hall_patiences z_hall_wanted x2 v_hall_count v_hall_kinds r7 h8) hC hA hP hD hS hl.1 cw_PR_122 1 rfl rfl rfl ⟨Nat.le_of_ble_eq_true rfl, Nat.le_of_ble_eq_true rfl⟩ rfl rfl (Nat.le_of_ble_eq_true rfl) d_PR_rests_87 ⟨Nat.zero_le _, Nat.zero_le _⟩ [1, 2] [0] [0, 1, 2] (by decide) (Cut_mk rfl rfl (by decide) (by decide) (by decide) rfl) (fun H locs hP hD hS => ?_)
          refine lv_iload hx hb d_PR_rests_90 (lv_at hl 7 rfl) ?_
          refine lv_iload hx hb d_PR_rests_92 (lv_at hl 6 rfl) ?_
          obtain ⟨r9, h10, hf⟩ := o_bind hf
          refine cSi0 (rest := []) (c_PR_isBestWait l D cI cZ r7 x7 x6 r9 h10) hC hA hP hD hS hl.1 cw_PR_220 ⟨Nat.le_of_ble_eq_true rfl, Nat.le_of_ble_eq_true rfl⟩ rfl rfl (Nat.le_of_ble_eq_true rfl) d_PR_rests_94 ⟨Nat.zero_le _, Nat.zero_le _⟩ (fun H locs hP hS => ?_)
          refine lv_if_eq (tgt := 125) hx hb d_PR_rests_97 (by decide) (fun c11 => ?_) (fun c11 => ?_)
          · have hf := o_pos c11 hf
            exact B_125 back_49 K_49 back_58 K_58 x1 x2 x3 x4 x5 x6 x7 _ _ _ hP hD hS (lv_sub hl [0, 1, 2, 3, 4, 5, 6, 7] rfl) hf
          · have hf := o_neg c11 hf
            refine lv_iinc (v := x4 + 1) (lv' := [(4, .int (x4 + 1)), (0, .ref a_p0), (1, .int x1), (2, .int x2), (3, .int x3), (5, .int x5), (6, .int x6), (7, .int x7)]) hx hb d_PR_rests_100 hl (k := 4) rfl (rfl) (by decide) rfl (fun ls hl => ?_)
            refine lv_iload hx hb d_PR_rests_103 (lv_at hl 5 rfl) ?_
            refine lv_bipush (v := (-9)) hx hb d_PR_rests_105 (by decide) ?_
            refine lv_icmp_ne (tgt := 121) hx hb d_PR_rests_107 (by decide) (fun c12 => ?_) (fun c12 => ?_)
            · have hf := o_neg c12 hf
              refine lv_iload hx hb d_PR_rests_121 (lv_at hl 5 rfl) ?_
              exact B_123 back_49 K_49 back_58 K_58 x1 x2 x3 (x4 + 1) x6 x7 x5 _ _ _ hP hD hS (lv_sub hl [1, 2, 3, 4, 0, 6, 7] rfl) hf
            · have hf := o_pos c12 hf
              refine lv_bipush (v := 10) hx hb d_PR_rests_110 (by decide) ?_
              refine lv_iload hx hb d_PR_rests_112 (lv_at hl 6 rfl) ?_
              refine lv_imul hx hb d_PR_rests_114 ?_
              refine lv_iload hx hb d_PR_rests_115 (lv_at hl 7 rfl) ?_
              refine lv_iadd hx hb d_PR_rests_117 ?_
              refine lv_goto (tgt := 123) hx hb d_PR_rests_118 (by decide) ?_
              exact B_123 back_49 K_49 back_58 K_58 x1 x2 x3 (x4 + 1) x6 x7 ((10 * x6) + x7) _ _ _ hP hD hS (lv_sub hl [1, 2, 3, 4, 0, 6, 7] rfl) hf
  have B_49 : ∀  (n : Nat) (x1 : Int32) (x2 : Int32) (x3 : Int32) (x4 : Int32) (x5 : Int32) (x6 : Int32) (H : Heap) (locs : List Loc) (ls : Array Slot), va_P D classes (cs_PR_rests cI cZ a_p0 a_hall a_hall_kinds z_text z_now z_trial z_hand z_acts z_slots z_seen z_hall_layers z_hall_patiences z_hall_wanted v_actCount v_slotsKept v_seed v_hall_count v_hall_kinds) H → va_D A (cs_PR_rests cI cZ a_p0 a_hall a_hall_kinds z_text z_now z_trial z_hand z_acts z_slots z_seen z_hall_layers z_hall_patiences z_hall_wanted v_actCount v_slotsKept v_seed v_hall_count v_hall_kinds) → va_S A s.heap H locs → lv_has ls 8 [(0, .ref a_p0), (1, .int x1), (2, .int x2), (3, .int x3), (4, .int x4), (5, .int x5), (6, .int x6)] → f_PR_rests_49  v_hall_count v_hall_kinds n x1 x2 x3 x4 x5 x6 = some res → W p l e (rm_ 2 (40 * 2)) s m args below meth c H locs 0 0 Q (F0 m 49 ls []) := by
    intro  n
    induction n with
    | zero => intro x1 x2 x3 x4 x5 x6 H locs ls hP hD hS hl hf; exact nomatch hf
    | succ n ih =>
      intro x1 x2 x3 x4 x5 x6 H locs ls hP hD hS hl hf
      have hf : f_PR_rests_49_b  (f_PR_rests_49  v_hall_count v_hall_kinds n) v_hall_count v_hall_kinds x1 x2 x3 x4 x5 x6 = some res := hf
      generalize f_PR_rests_49  v_hall_count v_hall_kinds n = back_49 at ih hf
      have K_49 := ih
      unfold f_PR_rests_49_b at hf
      refine lv_iload hx hb d_PR_rests_49 (lv_at hl 6 rfl) ?_
      refine lv_iconst (v := 4) hx hb d_PR_rests_51 (by decide) ?_
      refine lv_icmp_ge (tgt := 137) hx hb d_PR_rests_52 (by decide) (fun c1 => ?_) (fun c1 => ?_)
      · have hf := o_pos c1 hf
        refine lv_iload_n hx hb d_PR_rests_137 rfl (lv_at hl 3 rfl) ?_
        refine lv_if_ne (tgt := 146) hx hb d_PR_rests_138 (by decide) (fun c2 => ?_) (fun c2 => ?_)
        · have hf := o_neg c2 hf
          refine lv_iload hx hb d_PR_rests_146 (lv_at hl 5 rfl) ?_
          exact B_148 x5 _ _ _ hP hD hS (lv_sub hl [] rfl) hf
        · have hf := o_pos c2 hf
          refine lv_iload hx hb d_PR_rests_141 (lv_at hl 4 rfl) ?_
          refine lv_goto (tgt := 148) hx hb d_PR_rests_143 (by decide) ?_
          exact B_148 x4 _ _ _ hP hD hS (lv_sub hl [] rfl) hf
      · have hf := o_neg c1 hf
        refine lv_iconst (v := 0) hx hb d_PR_rests_55 (by decide) ?_
        refine lv_istore (lv' := [(7, .int 0), (0, .ref a_p0), (1, .int x1), (2, .int x2), (3, .int x3), (4, .int x4), (5, .int x5), (6, .int x6)]) hx hb d_PR_rests_56 hl (by decide) rfl (fun ls hl => ?_)
        exact B_58 back_49 K_49 300 x1 x2 x3 x4 x5 x6 0 _ _ _ hP hD hS (lv_sub hl [1, 2, 3, 4, 5, 6, 7, 0] rfl) hf
  unfold f_PR_rests at hf
  have E : ∀ (H : Heap) (locs : List Loc), va_P D classes (cs_PR_rests cI cZ a_p0 a_hall a_hall_kinds z_text z_now z_trial z_hand z_acts z_slots z_seen z_hall_layers z_hall_patiences z_hall_wanted v_actCount v_slotsKept v_seed v_hall_count v_hall_kinds) H → va_S A s.heap H locs → W p l e (rm_ 2 (40 * 2)) s m args below meth c H locs 0 0 Q (F0 m 0 ls []) := by
    intro H locs hP hS
    refine lv_aload_n hx hb d_PR_rests_0 rfl (lv_at hl 0 rfl) ?_
    refine gf_PR_19 hC hP 0 rfl rfl d_PR_rests_1 ?_
    refine lv_iload_n hx hb d_PR_rests_4 rfl (lv_at hl 1 rfl) ?_
    obtain ⟨r1, h2, hf⟩ := o_bind hf
    refine cVi (rest := []) (wr := [(a_p0, .inr (6, [.ref z_text, .ref a_hall, .ref z_now, .ref z_trial, .ref z_hand, .ref z_acts, .ref z_slots, .ref z_seen, .int v_actCount, .int v_slotsKept, .long v_seed])), (a_hall_kinds, .inl (cI, 5, .inl v_hall_kinds))]) (wn := (cs_PR_rests cI cZ a_p0 a_hall a_hall_kinds z_text z_now z_trial z_hand z_acts z_slots z_seen z_hall_layers z_hall_patiences z_hall_wanted v_actCount v_slotsKept v_seed v_hall_count v_hall_kinds)) (c_Hall_has l D cI cZ a_hall z_hall_layers a_hall_kinds z_hall_patiences z_hall_wanted i1 v_hall_count r1 h2) hC hA hP hD hS hl.1 cw_PR_119 1 rfl rfl rfl ⟨Nat.le_of_ble_eq_true rfl, Nat.le_of_ble_eq_true rfl⟩ rfl rfl (Nat.le_of_ble_eq_true rfl) d_PR_rests_5 ⟨Nat.zero_le _, Nat.zero_le _⟩ [1] [0, 2] [0, 2, 1] (by decide) (Cut_mk rfl rfl (by decide) (by decide) (by decide) rfl) (fun H locs hP hD hS => ?_)
    refine lv_if_eq (tgt := 22) hx hb d_PR_rests_8 (by decide) (fun c3 => ?_) (fun c3 => ?_)
    · have hf := o_pos c3 hf
      exact B_22 _ _ _ hP hD hS (lv_sub hl [] rfl) hf
    · have hf := o_neg c3 hf
      refine lv_aload_n hx hb d_PR_rests_11 rfl (lv_at hl 0 rfl) ?_
      refine gf_PR_19 hC hP 0 rfl rfl d_PR_rests_12 ?_
      refine lv_iload_n hx hb d_PR_rests_15 rfl (lv_at hl 2 rfl) ?_
      obtain ⟨r4, h5, hf⟩ := o_bind hf
      refine cVi (rest := []) (wr := [(a_p0, .inr (6, [.ref z_text, .ref a_hall, .ref z_now, .ref z_trial, .ref z_hand, .ref z_acts, .ref z_slots, .ref z_seen, .int v_actCount, .int v_slotsKept, .long v_seed])), (a_hall_kinds, .inl (cI, 5, .inl v_hall_kinds))]) (wn := (cs_PR_rests cI cZ a_p0 a_hall a_hall_kinds z_text z_now z_trial z_hand z_acts z_slots z_seen z_hall_layers z_hall_patiences z_hall_wanted v_actCount v_slotsKept v_seed v_hall_count v_hall_kinds)) (c_Hall_has l D cI cZ a_hall z_hall_layers a_hall_kinds z_hall_patiences z_hall_wanted i2 v_hall_count r4 h5) hC hA hP hD hS hl.1 cw_PR_119 1 rfl rfl rfl ⟨Nat.le_of_ble_eq_true rfl, Nat.le_of_ble_eq_true rfl⟩ rfl rfl (Nat.le_of_ble_eq_true rfl) d_PR_rests_16 ⟨Nat.zero_le _, Nat.zero_le _⟩ [1] [0, 2] [0, 2, 1] (by decide) (Cut_mk rfl rfl (by decide) (by decide) (by decide) rfl) (fun H locs hP hD hS => ?_)
      refine lv_if_ne (tgt := 24) hx hb d_PR_rests_19 (by decide) (fun c6 => ?_) (fun c6 => ?_)
      · have hf := o_neg c6 hf
        refine lv_iload_n hx hb d_PR_rests_24 rfl (lv_at hl 1 rfl) ?_
        refine lv_iload_n hx hb d_PR_rests_25 rfl (lv_at hl 2 rfl) ?_
        refine lv_icmp_eq (tgt := 36) hx hb d_PR_rests_26 (by decide) (fun c7 => ?_) (fun c7 => ?_)
        · have hf := o_pos c7 hf
          exact B_36 _ _ _ hP hD hS (lv_sub hl [] rfl) hf
        · have hf := o_neg c7 hf
          refine lv_iload_n hx hb d_PR_rests_29 rfl (lv_at hl 3 rfl) ?_
          obtain ⟨r8, h9, hf⟩ := o_bind hf
          refine cSi0 (rest := []) (c_PR_isOneOfTwo l D cI cZ i3 r8 h9) hC hA hP hD hS hl.1 cw_PR_171 ⟨Nat.le_of_ble_eq_true rfl, Nat.le_of_ble_eq_true rfl⟩ rfl rfl (Nat.le_of_ble_eq_true rfl) d_PR_rests_30 ⟨Nat.zero_le _, Nat.zero_le _⟩ (fun H locs hP hS => ?_)
          refine lv_if_ne (tgt := 39) hx hb d_PR_rests_33 (by decide) (fun c10 => ?_) (fun c10 => ?_)
          · have hf := o_neg c10 hf
            refine lv_iconst (v := 0) hx hb d_PR_rests_39 (by decide) ?_
            refine lv_istore (lv' := [(4, .int 0), (0, .ref a_p0), (1, .int i1), (2, .int i2), (3, .int i3)]) hx hb d_PR_rests_40 hl (by decide) rfl (fun ls hl => ?_)
            refine lv_bipush (v := (-9)) hx hb d_PR_rests_42 (by decide) ?_
            refine lv_istore (lv' := [(5, .int ((-9))), (4, .int 0), (0, .ref a_p0), (1, .int i1), (2, .int i2), (3, .int i3)]) hx hb d_PR_rests_44 hl (by decide) rfl (fun ls hl => ?_)
            refine lv_iconst (v := 0) hx hb d_PR_rests_46 (by decide) ?_
            refine lv_istore (lv' := [(6, .int 0), (5, .int ((-9))), (4, .int 0), (0, .ref a_p0), (1, .int i1), (2, .int i2), (3, .int i3)]) hx hb d_PR_rests_47 hl (by decide) rfl (fun ls hl => ?_)
            exact B_49 300 i1 i2 i3 0 ((-9)) 0 _ _ _ hP hD hS (lv_sub hl [3, 4, 5, 6, 2, 1, 0] rfl) hf
          · have hf := o_pos c10 hf
            exact B_36 _ _ _ hP hD hS (lv_sub hl [] rfl) hf
      · have hf := o_pos c6 hf
        exact B_22 _ _ _ hP hD hS (lv_sub hl [] rfl) hf
  exact E _ _ hP hS
set_option maxHeartbeats 4000000 in
set_option maxRecDepth 100000 in
theorem c_PR_wet (l : Launch) (D : va_G) (cI cZ : ClassId) (a_p0 a_hall a_hall_layers a_hall_kinds a_hall_wanted a_now a_now_off a_hand a_hand_shown z_text z_trial z_acts z_slots z_seen z_hall_patiences z_now_waited : Nat) (i1 : Int32) (i2 : Int32) (i3 : Int32) (v_actCount : Int32) (v_slotsKept : Int32) (v_seed : Int64) (v_hall_count : Int32) (v_hall_layers : Nat → Int32) (v_hall_kinds : Nat → Int32) (v_hall_wanted : Nat → Int32) (v_now_nights : Int32) (v_now_off : Nat → Int32) (v_hand_shown : Nat → Int32) (res : Int32 × (Nat → Int32)) (hf : f_PR_wet i1 i2 i3 v_hall_count v_hall_layers v_hall_kinds v_hall_wanted v_now_off v_hand_shown = some res) : CtI l y_PR_wet b_PR_wet 10 (some .int) 4 D cI cZ [.ref a_p0, .int i1, .int i2, .int i3] (cs_PR_wet cI cZ a_p0 a_hall a_hall_layers a_hall_kinds a_hall_wanted a_now a_now_off a_hand a_hand_shown z_text z_trial z_acts z_slots z_seen z_hall_patiences z_now_waited v_actCount v_slotsKept v_seed v_hall_count v_hall_layers v_hall_kinds v_hall_wanted v_now_nights v_now_off v_hand_shown) res.1 (cs_PR_wet cI cZ a_p0 a_hall a_hall_layers a_hall_kinds a_hall_wanted a_now a_now_off a_hand a_hand_shown z_text z_trial z_acts z_slots z_seen z_hall_patiences z_now_waited v_actCount v_slotsKept v_seed v_hall_count v_hall_layers v_hall_kinds v_hall_wanted v_now_nights v_now_off res.2) := by
  refine CtI_mk (by decide) (Nat.le_of_ble_eq_true rfl) ?_
  intro p e s m args below meth c A Q hC hA hP hD RET ls hl
  have hC : Cx p s m args meth c b_PR_wet 10 R_PR D cI cZ := hC
  have hl : lv_has ls 10 [(0, .ref a_p0), (1, .int i1), (2, .int i2), (3, .int i3)] := hl
  obtain ⟨hx, hb, hml, hown, hts, hlk, hKK⟩ := id hC
  have hS : va_S A s.heap s.heap [] := va_S.rf
  have B_19 : ∀  (v_hand_shown : Nat → Int32) (H : Heap) (locs : List Loc) (ls : Array Slot), va_P D classes (cs_PR_wet cI cZ a_p0 a_hall a_hall_layers a_hall_kinds a_hall_wanted a_now a_now_off a_hand a_hand_shown z_text z_trial z_acts z_slots z_seen z_hall_patiences z_now_waited v_actCount v_slotsKept v_seed v_hall_count v_hall_layers v_hall_kinds v_hall_wanted v_now_nights v_now_off v_hand_shown) H → va_D A (cs_PR_wet cI cZ a_p0 a_hall a_hall_layers a_hall_kinds a_hall_wanted a_now a_now_off a_hand a_hand_shown z_text z_trial z_acts z_slots z_seen z_hall_patiences z_now_waited v_actCount v_slotsKept v_seed v_hall_count v_hall_layers v_hall_kinds v_hall_wanted v_now_nights v_now_off v_hand_shown) → va_S A s.heap H locs → lv_has ls 10 [] → f_PR_wet_19  v_hall_count v_hall_layers v_hall_kinds v_hall_wanted v_now_off v_hand_shown = some res → W p l e (rm_ 4 (40 * 4)) s m args below meth c H locs 0 0 Q (F0 m 19 ls []) := by
    intro  v_hand_shown H locs ls hP hD hS hl hf
    unfold f_PR_wet_19 at hf
    refine lv_bipush (v := (-2)) hx hb d_PR_wet_19 (by decide) ?_
    have hr := Option.some.inj hf
    exact RET _ _ _ _ _ _ rfl (congrArg (fun r : Int32 × (Nat → Int32) => r.1) hr) (congrArg (fun r : Int32 × (Nat → Int32) => (cs_PR_wet cI cZ a_p0 a_hall a_hall_layers a_hall_kinds a_hall_wanted a_now a_now_off a_hand a_hand_shown z_text z_trial z_acts z_slots z_seen z_hall_patiences z_now_waited v_actCount v_slotsKept v_seed v_hall_count v_hall_layers v_hall_kinds v_hall_wanted v_now_nights v_now_off r.2)) hr) hP hD hS d_PR_wet_21
  have B_120 : ∀ (back_44 : Int32 → Int32 → Int32 → Int32 → Int32 → Int32 → Int32 → (Nat → Int32) → Option (Int32 × (Nat → Int32))) (K_44 : ∀ (x1 : Int32) (x2 : Int32) (x3 : Int32) (x4 : Int32) (x5 : Int32) (x6 : Int32) (x7 : Int32) (v_hand_shown : Nat → Int32) (H : Heap) (locs : List Loc) (ls : Array Slot), va_P D classes (cs_PR_wet cI cZ a_p0 a_hall a_hall_layers a_hall_kinds a_hall_wanted a_now a_now_off a_hand a_hand_shown z_text z_trial z_acts z_slots z_seen z_hall_patiences z_now_waited v_actCount v_slotsKept v_seed v_hall_count v_hall_layers v_hall_kinds v_hall_wanted v_now_nights v_now_off v_hand_shown) H → va_D A (cs_PR_wet cI cZ a_p0 a_hall a_hall_layers a_hall_kinds a_hall_wanted a_now a_now_off a_hand a_hand_shown z_text z_trial z_acts z_slots z_seen z_hall_patiences z_now_waited v_actCount v_slotsKept v_seed v_hall_count v_hall_layers v_hall_kinds v_hall_wanted v_now_nights v_now_off v_hand_shown) → va_S A s.heap H locs → lv_has ls 10 [(1, .int x1), (2, .int x2), (3, .int x3), (4, .int x4), (5, .int x5), (6, .int x6), (7, .int x7)] → back_44 x1 x2 x3 x4 x5 x6 x7 v_hand_shown = some res → W p l e (rm_ 4 (40 * 4)) s m args below meth c H locs 0 0 Q (F0 m 44 ls [])) (x1 : Int32) (x2 : Int32) (x3 : Int32) (x4 : Int32) (x6 : Int32) (x7 : Int32) (w0 : Int32) (w1 : Int32) (v_hand_shown : Nat → Int32) (H : Heap) (locs : List Loc) (ls : Array Slot), va_P D classes (cs_PR_wet cI cZ a_p0 a_hall a_hall_layers a_hall_kinds a_hall_wanted a_now a_now_off a_hand a_hand_shown z_text z_trial z_acts z_slots z_seen z_hall_patiences z_now_waited v_actCount v_slotsKept v_seed v_hall_count v_hall_layers v_hall_kinds v_hall_wanted v_now_nights v_now_off v_hand_shown) H → va_D A (cs_PR_wet cI cZ a_p0 a_hall a_hall_layers a_hall_kinds a_hall_wanted a_now a_now_off a_hand a_hand_shown z_text z_trial z_acts z_slots z_seen z_hall_patiences z_now_waited v_actCount v_slotsKept v_seed v_hall_count v_hall_layers v_hall_kinds v_hall_wanted v_now_nights v_now_off v_hand_shown) → va_S A s.heap H locs → lv_has ls 10 [(1, .int x1), (2, .int x2), (3, .int x3), (4, .int x4), (6, .int x6), (7, .int x7)] → f_PR_wet_120 back_44 v_hall_count v_hall_layers v_hall_kinds v_hall_wanted v_now_off x1 x2 x3 x4 x6 x7 w0 w1 v_hand_shown = some res → W p l e (rm_ 4 (40 * 4)) s m args below meth c H locs 0 0 Q (F0 m 120 ls [.int w1, .int w0]) := by
    intro back_44 K_44 x1 x2 x3 x4 x6 x7 w0 w1 v_hand_shown H locs ls hP hD hS hl hf
    unfold f_PR_wet_120 at hf
    refine lv_iadd hx hb d_PR_wet_120 ?_
    refine lv_istore (lv' := [(5, .int (w0 + w1)), (1, .int x1), (2, .int x2), (3, .int x3), (4, .int x4), (6, .int x6), (7, .int x7)]) hx hb d_PR_wet_121 hl (by decide) rfl (fun ls hl => ?_)
    refine lv_iinc (v := x7 + 1) (lv' := [(7, .int (x7 + 1)), (5, .int (w0 + w1)), (1, .int x1), (2, .int x2), (3, .int x3), (4, .int x4), (6, .int x6)]) hx hb d_PR_wet_123 hl (k := 6) rfl (rfl) (by decide) rfl (fun ls hl => ?_)
    refine lv_goto (tgt := 44) hx hb d_PR_wet_126 (by decide) ?_
    exact K_44 x1 x2 x3 x4 (w0 + w1) x6 (x7 + 1) v_hand_shown _ _ _ hP hD hS (lv_sub hl [2, 3, 4, 5, 1, 6, 0] rfl) hf
  have B_87 : ∀ (back_44 : Int32 → Int32 → Int32 → Int32 → Int32 → Int32 → Int32 → (Nat → Int32) → Option (Int32 × (Nat → Int32))) (K_44 : ∀ (x1 : Int32) (x2 : Int32) (x3 : Int32) (x4 : Int32) (x5 : Int32) (x6 : Int32) (x7 : Int32) (v_hand_shown : Nat → Int32) (H : Heap) (locs : List Loc) (ls : Array Slot), va_P D classes (cs_PR_wet cI cZ a_p0 a_hall a_hall_layers a_hall_kinds a_hall_wanted a_now a_now_off a_hand a_hand_shown z_text z_trial z_acts z_slots z_seen z_hall_patiences z_now_waited v_actCount v_slotsKept v_seed v_hall_count v_hall_layers v_hall_kinds v_hall_wanted v_now_nights v_now_off v_hand_shown) H → va_D A (cs_PR_wet cI cZ a_p0 a_hall a_hall_layers a_hall_kinds a_hall_wanted a_now a_now_off a_hand a_hand_shown z_text z_trial z_acts z_slots z_seen z_hall_patiences z_now_waited v_actCount v_slotsKept v_seed v_hall_count v_hall_layers v_hall_kinds v_hall_wanted v_now_nights v_now_off v_hand_shown) → va_S A s.heap H locs → lv_has ls 10 [(1, .int x1), (2, .int x2), (3, .int x3), (4, .int x4), (5, .int x5), (6, .int x6), (7, .int x7)] → back_44 x1 x2 x3 x4 x5 x6 x7 v_hand_shown = some res → W p l e (rm_ 4 (40 * 4)) s m args below meth c H locs 0 0 Q (F0 m 44 ls [])) (back_59 : Int32 → Int32 → Int32 → Int32 → Int32 → Int32 → Int32 → Int32 → Int32 → (Nat → Int32) → Option (Int32 × (Nat → Int32))) (K_59 : ∀ (x1 : Int32) (x2 : Int32) (x3 : Int32) (x4 : Int32) (x5 : Int32) (x6 : Int32) (x7 : Int32) (x8 : Int32) (x9 : Int32) (v_hand_shown : Nat → Int32) (H : Heap) (locs : List Loc) (ls : Array Slot), va_P D classes (cs_PR_wet cI cZ a_p0 a_hall a_hall_layers a_hall_kinds a_hall_wanted a_now a_now_off a_hand a_hand_shown z_text z_trial z_acts z_slots z_seen z_hall_patiences z_now_waited v_actCount v_slotsKept v_seed v_hall_count v_hall_layers v_hall_kinds v_hall_wanted v_now_nights v_now_off v_hand_shown) H → va_D A (cs_PR_wet cI cZ a_p0 a_hall a_hall_layers a_hall_kinds a_hall_wanted a_now a_now_off a_hand a_hand_shown z_text z_trial z_acts z_slots z_seen z_hall_patiences z_now_waited v_actCount v_slotsKept v_seed v_hall_count v_hall_layers v_hall_kinds v_hall_wanted v_now_nights v_now_off v_hand_shown) → va_S A s.heap H locs → lv_has ls 10 [(1, .int x1), (2, .int x2), (3, .int x3), (4, .int x4), (5, .int x5), (6, .int x6), (7, .int x7), (8, .int x8), (9, .int x9)] → back_59 x1 x2 x3 x4 x5 x6 x7 x8 x9 v_hand_shown = some res → W p l e (rm_ 4 (40 * 4)) s m args below meth c H locs 0 0 Q (F0 m 59 ls [])) (x1 : Int32) (x2 : Int32) (x3 : Int32) (x4 : Int32) (x5 : Int32) (x6 : Int32) (x7 : Int32) (x9 : Int32) (w0 : Int32) (w1 : Int32) (v_hand_shown : Nat → Int32) (H : Heap) (locs : List Loc) (ls : Array Slot), va_P D classes (cs_PR_wet cI cZ a_p0 a_hall a_hall_layers a_hall_kinds a_hall_wanted a_now a_now_off a_hand a_hand_shown z_text z_trial z_acts z_slots z_seen z_hall_patiences z_now_waited v_actCount v_slotsKept v_seed v_hall_count v_hall_layers v_hall_kinds v_hall_wanted v_now_nights v_now_off v_hand_shown) H → va_D A (cs_PR_wet cI cZ a_p0 a_hall a_hall_layers a_hall_kinds a_hall_wanted a_now a_now_off a_hand a_hand_shown z_text z_trial z_acts z_slots z_seen z_hall_patiences z_now_waited v_actCount v_slotsKept v_seed v_hall_count v_hall_layers v_hall_kinds v_hall_wanted v_now_nights v_now_off v_hand_shown) → va_S A s.heap H locs → lv_has ls 10 [(1, .int x1), (2, .int x2), (3, .int x3), (4, .int x4), (5, .int x5), (6, .int x6), (7, .int x7), (9, .int x9)] → f_PR_wet_87 back_44 back_59 v_hall_count v_hall_layers v_hall_kinds v_hall_wanted v_now_off x1 x2 x3 x4 x5 x6 x7 x9 w0 w1 v_hand_shown = some res → W p l e (rm_ 4 (40 * 4)) s m args below meth c H locs 0 0 Q (F0 m 87 ls [.int w1, .int w0]) := by
    intro back_44 K_44 back_59 K_59 x1 x2 x3 x4 x5 x6 x7 x9 w0 w1 v_hand_shown H locs ls hP hD hS hl hf
    unfold f_PR_wet_87 at hf
    refine lv_imul hx hb d_PR_wet_87 ?_
    refine lv_istore (lv' := [(8, .int (w0 * w1)), (1, .int x1), (2, .int x2), (3, .int x3), (4, .int x4), (5, .int x5), (6, .int x6), (7, .int x7), (9, .int x9)]) hx hb d_PR_wet_88 hl (by decide) rfl (fun ls hl => ?_)
    refine lv_iinc (v := x9 + 1) (lv' := [(9, .int (x9 + 1)), (8, .int (w0 * w1)), (1, .int x1), (2, .int x2), (3, .int x3), (4, .int x4), (5, .int x5), (6, .int x6), (7, .int x7)]) hx hb d_PR_wet_90 hl (k := 8) rfl (rfl) (by decide) rfl (fun ls hl => ?_)
    refine lv_goto (tgt := 59) hx hb d_PR_wet_93 (by decide) ?_
    exact K_59 x1 x2 x3 x4 x5 x6 x7 (w0 * w1) (x9 + 1) v_hand_shown _ _ _ hP hD hS (lv_sub hl [2, 3, 4, 5, 6, 7, 8, 1, 0] rfl) hf
  have B_59 : ∀ (back_44 : Int32 → Int32 → Int32 → Int32 → Int32 → Int32 → Int32 → (Nat → Int32) → Option (Int32 × (Nat → Int32))) (K_44 : ∀ (x1 : Int32) (x2 : Int32) (x3 : Int32) (x4 : Int32) (x5 : Int32) (x6 : Int32) (x7 : Int32) (v_hand_shown : Nat → Int32) (H : Heap) (locs : List Loc) (ls : Array Slot), va_P D classes (cs_PR_wet cI cZ a_p0 a_hall a_hall_layers a_hall_kinds a_hall_wanted a_now a_now_off a_hand a_hand_shown z_text z_trial z_acts z_slots z_seen z_hall_patiences z_now_waited v_actCount v_slotsKept v_seed v_hall_count v_hall_layers v_hall_kinds v_hall_wanted v_now_nights v_now_off v_hand_shown) H → va_D A (cs_PR_wet cI cZ a_p0 a_hall a_hall_layers a_hall_kinds a_hall_wanted a_now a_now_off a_hand a_hand_shown z_text z_trial z_acts z_slots z_seen z_hall_patiences z_now_waited v_actCount v_slotsKept v_seed v_hall_count v_hall_layers v_hall_kinds v_hall_wanted v_now_nights v_now_off v_hand_shown) → va_S A s.heap H locs → lv_has ls 10 [(1, .int x1), (2, .int x2), (3, .int x3), (4, .int x4), (5, .int x5), (6, .int x6), (7, .int x7)] → back_44 x1 x2 x3 x4 x5 x6 x7 v_hand_shown = some res → W p l e (rm_ 4 (40 * 4)) s m args below meth c H locs 0 0 Q (F0 m 44 ls [])) (n : Nat) (x1 : Int32) (x2 : Int32) (x3 : Int32) (x4 : Int32) (x5 : Int32) (x6 : Int32) (x7 : Int32) (x8 : Int32) (x9 : Int32) (v_hand_shown : Nat → Int32) (H : Heap) (locs : List Loc) (ls : Array Slot), va_P D classes (cs_PR_wet cI cZ a_p0 a_hall a_hall_layers a_hall_kinds a_hall_wanted a_now a_now_off a_hand a_hand_shown z_text z_trial z_acts z_slots z_seen z_hall_patiences z_now_waited v_actCount v_slotsKept v_seed v_hall_count v_hall_layers v_hall_kinds v_hall_wanted v_now_nights v_now_off v_hand_shown) H → va_D A (cs_PR_wet cI cZ a_p0 a_hall a_hall_layers a_hall_kinds a_hall_wanted a_now a_now_off a_hand a_hand_shown z_text z_trial z_acts z_slots z_seen z_hall_patiences z_now_waited v_actCount v_slotsKept v_seed v_hall_count v_hall_layers v_hall_kinds v_hall_wanted v_now_nights v_now_off v_hand_shown) → va_S A s.heap H locs → lv_has ls 10 [(1, .int x1), (2, .int x2), (3, .int x3), (4, .int x4), (5, .int x5), (6, .int x6), (7, .int x7), (8, .int x8), (9, .int x9)] → f_PR_wet_59 back_44 v_hall_count v_hall_layers v_hall_kinds v_hall_wanted v_now_off n x1 x2 x3 x4 x5 x6 x7 x8 x9 v_hand_shown = some res → W p l e (rm_ 4 (40 * 4)) s m args below meth c H locs 0 0 Q (F0 m 59 ls []) := by
    intro back_44 K_44 n
    induction n with
    | zero => intro x1 x2 x3 x4 x5 x6 x7 x8 x9 v_hand_shown H locs ls hP hD hS hl hf; exact nomatch hf
    | succ n ih =>
      intro x1 x2 x3 x4 x5 x6 x7 x8 x9 v_hand_shown H locs ls hP hD hS hl hf
      have hf : f_PR_wet_59_b back_44 (f_PR_wet_59 back_44 v_hall_count v_hall_layers v_hall_kinds v_hall_wanted v_now_off n) v_hall_count v_hall_layers v_hall_kinds v_hall_wanted v_now_off x1 x2 x3 x4 x5 x6 x7 x8 x9 v_hand_shown = some res := hf
      generalize f_PR_wet_59 back_44 v_hall_count v_hall_layers v_hall_kinds v_hall_wanted v_now_off n = back_59 at ih hf
      have K_59 := ih
      unfold f_PR_wet_59_b at hf
      refine lv_iload hx hb d_PR_wet_59 (lv_at hl 8 rfl) ?_
      refine lv_iload hx hb d_PR_wet_61 (lv_at hl 3 rfl) ?_
      refine lv_icmp_ge (tgt := 96) hx hb d_PR_wet_63 (by decide) (fun c1 => ?_) (fun c1 => ?_)
      · have hf := o_pos c1 hf
        refine lv_iload hx hb d_PR_wet_96 (lv_at hl 5 rfl) ?_
        refine lv_iload hx hb d_PR_wet_98 (lv_at hl 7 rfl) ?_
        refine lv_iadd hx hb d_PR_wet_100 ?_
        refine lv_istore (lv' := [(6, .int (x6 + x8)), (1, .int x1), (2, .int x2), (3, .int x3), (4, .int x4), (5, .int x5), (7, .int x7), (8, .int x8), (9, .int x9)]) hx hb d_PR_wet_101 hl (by decide) rfl (fun ls hl => ?_)
        refine lv_iload hx hb d_PR_wet_103 (lv_at hl 5 rfl) ?_
        refine lv_iload hx hb d_PR_wet_105 (lv_at hl 6 rfl) ?_
        obtain ⟨r2, h3, hf⟩ := o_bind hf
        refine cSi0 (rest := [.int x5]) (c_Int_bitCount l D cI cZ x7 r2 h3) hC hA hP hD hS hl.1 cw_PR_141 ⟨Nat.le_of_ble_eq_true rfl, Nat.le_of_ble_eq_true rfl⟩ rfl rfl (Nat.le_of_ble_eq_true rfl) d_PR_wet_107 ⟨Nat.zero_le _, Nat.zero_le _⟩ (fun H locs hP hS => ?_)
        refine lv_iload_n hx hb d_PR_wet_110 rfl (lv_at hl 1 rfl) ?_
        refine lv_icmp_lt (tgt := 119) hx hb d_PR_wet_111 (by decide) (fun c4 => ?_) (fun c4 => ?_)
        · have hf := o_pos c4 hf
          refine lv_iconst (v := 0) hx hb d_PR_wet_119 (by decide) ?_
          exact B_120 back_44 K_44 x1 x2 x3 x4 (x6 + x8) x7 x5 0 v_hand_shown _ _ _ hP hD hS (lv_sub hl [1, 2, 3, 4, 0, 6] rfl) hf
        · have hf := o_neg c4 hf
          refine lv_iload hx hb d_PR_wet_114 (lv_at hl 7 rfl) ?_
          refine lv_goto (tgt := 120) hx hb d_PR_wet_116 (by decide) ?_
          exact B_120 back_44 K_44 x1 x2 x3 x4 (x6 + x8) x7 x5 x8 v_hand_shown _ _ _ hP hD hS (lv_sub hl [1, 2, 3, 4, 0, 6] rfl) hf
      · have hf := o_neg c1 hf
        refine lv_iload hx hb d_PR_wet_66 (lv_at hl 7 rfl) ?_
        refine lv_iload hx hb d_PR_wet_68 (lv_at hl 6 rfl) ?_
        refine lv_iload hx hb d_PR_wet_70 (lv_at hl 8 rfl) ?_
        refine lv_ishr hx hb d_PR_wet_72 ?_
        refine lv_iconst (v := 1) hx hb d_PR_wet_73 (by decide) ?_
        refine lv_iand hx hb d_PR_wet_74 ?_
        refine lv_iconst (v := 1) hx hb d_PR_wet_75 (by decide) ?_
        refine lv_icmp_ne (tgt := 83) hx hb d_PR_wet_76 (by decide) (fun c5 => ?_) (fun c5 => ?_)
        · have hf := o_neg c5 hf
          refine lv_bipush (v := 10) hx hb d_PR_wet_83 (by decide) ?_
          refine lv_iload_n hx hb d_PR_wet_85 rfl (lv_at hl 1 rfl) ?_
          refine lv_isub hx hb d_PR_wet_86 ?_
          exact B_87 back_44 K_44 back_59 K_59 x1 x2 x3 x4 x5 x6 x7 x9 x8 (10 - x2) v_hand_shown _ _ _ hP hD hS (lv_sub hl [0, 1, 2, 3, 4, 5, 6, 8] rfl) hf
        · have hf := o_pos c5 hf
          refine lv_iload_n hx hb d_PR_wet_79 rfl (lv_at hl 1 rfl) ?_
          refine lv_goto (tgt := 87) hx hb d_PR_wet_80 (by decide) ?_
          exact B_87 back_44 K_44 back_59 K_59 x1 x2 x3 x4 x5 x6 x7 x9 x8 x2 v_hand_shown _ _ _ hP hD hS (lv_sub hl [0, 1, 2, 3, 4, 5, 6, 8] rfl) hf
  have B_44 : ∀  (n : Nat) (x1 : Int32) (x2 : Int32) (x3 : Int32) (x4 : Int32) (x5 : Int32) (x6 : Int32) (x7 : Int32) (v_hand_shown : Nat → Int32) (H : Heap) (locs : List Loc) (ls : Array Slot), va_P D classes (cs_PR_wet cI cZ a_p0 a_hall a_hall_layers a_hall_kinds a_hall_wanted a_now a_now_off a_hand a_hand_shown z_text z_trial z_acts z_slots z_seen z_hall_patiences z_now_waited v_actCount v_slotsKept v_seed v_hall_count v_hall_layers v_hall_kinds v_hall_wanted v_now_nights v_now_off v_hand_shown) H → va_D A (cs_PR_wet cI cZ a_p0 a_hall a_hall_layers a_hall_kinds a_hall_wanted a_now a_now_off a_hand a_hand_shown z_text z_trial z_acts z_slots z_seen z_hall_patiences z_now_waited v_actCount v_slotsKept v_seed v_hall_count v_hall_layers v_hall_kinds v_hall_wanted v_now_nights v_now_off v_hand_shown) → va_S A s.heap H locs → lv_has ls 10 [(1, .int x1), (2, .int x2), (3, .int x3), (4, .int x4), (5, .int x5), (6, .int x6), (7, .int x7)] → f_PR_wet_44  v_hall_count v_hall_layers v_hall_kinds v_hall_wanted v_now_off n x1 x2 x3 x4 x5 x6 x7 v_hand_shown = some res → W p l e (rm_ 4 (40 * 4)) s m args below meth c H locs 0 0 Q (F0 m 44 ls []) := by
    intro  n
    induction n with
    | zero => intro x1 x2 x3 x4 x5 x6 x7 v_hand_shown H locs ls hP hD hS hl hf; exact nomatch hf
    | succ n ih =>
      intro x1 x2 x3 x4 x5 x6 x7 v_hand_shown H locs ls hP hD hS hl hf
      have hf : f_PR_wet_44_b  (f_PR_wet_44  v_hall_count v_hall_layers v_hall_kinds v_hall_wanted v_now_off n) v_hall_count v_hall_layers v_hall_kinds v_hall_wanted v_now_off x1 x2 x3 x4 x5 x6 x7 v_hand_shown = some res := hf
      generalize f_PR_wet_44  v_hall_count v_hall_layers v_hall_kinds v_hall_wanted v_now_off n = back_44 at ih hf
      have K_44 := ih
      unfold f_PR_wet_44_b at hf
      refine lv_iload hx hb d_PR_wet_44 (lv_at hl 6 rfl) ?_
      refine lv_iconst (v := 1) hx hb d_PR_wet_46 (by decide) ?_
      refine lv_iload hx hb d_PR_wet_47 (lv_at hl 3 rfl) ?_
      refine lv_ishl hx hb d_PR_wet_49 ?_
      refine lv_icmp_ge (tgt := 129) hx hb d_PR_wet_50 (by decide) (fun c1 => ?_) (fun c1 => ?_)
      · have hf := o_pos c1 hf
        refine lv_iload hx hb d_PR_wet_129 (lv_at hl 4 rfl) ?_
        refine lv_iload hx hb d_PR_wet_131 (lv_at hl 5 rfl) ?_
        refine lv_iload_n hx hb d_PR_wet_133 rfl (lv_at hl 2 rfl) ?_
        obtain ⟨r2, h3, hf⟩ := o_bind hf
        refine cSi0 (rest := []) (c_PR_fraction l D cI cZ x5 x6 x3 r2 h3) hC hA hP hD hS hl.1 cw_PR_208 ⟨Nat.le_of_ble_eq_true rfl, Nat.le_of_ble_eq_true rfl⟩ rfl rfl (Nat.le_of_ble_eq_true rfl) d_PR_wet_134 ⟨Nat.zero_le _, Nat.zero_le _⟩ (fun H locs hP hS => ?_)
        have hr := Option.some.inj hf
        exact RET _ _ _ _ _ _ rfl (congrArg (fun r : Int32 × (Nat → Int32) => r.1) hr) (congrArg (fun r : Int32 × (Nat → Int32) => (cs_PR_wet cI cZ a_p0 a_hall a_hall_layers a_hall_kinds a_hall_wanted a_now a_now_off a_hand a_hand_shown z_text z_trial z_acts z_slots z_seen z_hall_patiences z_now_waited v_actCount v_slotsKept v_seed v_hall_count v_hall_layers v_hall_kinds v_hall_wanted v_now_nights v_now_off r.2)) hr) hP hD hS d_PR_wet_137
      · have hf := o_neg c1 hf
        refine lv_iconst (v := 1) hx hb d_PR_wet_53 (by decide) ?_
        refine lv_istore (lv' := [(8, .int 1), (1, .int x1), (2, .int x2), (3, .int x3), (4, .int x4), (5, .int x5), (6, .int x6), (7, .int x7)]) hx hb d_PR_wet_54 hl (by decide) rfl (fun ls hl => ?_)
        refine lv_iconst (v := 0) hx hb d_PR_wet_56 (by decide) ?_
        refine lv_istore (lv' := [(9, .int 0), (8, .int 1), (1, .int x1), (2, .int x2), (3, .int x3), (4, .int x4), (5, .int x5), (6, .int x6), (7, .int x7)]) hx hb d_PR_wet_57 hl (by decide) rfl (fun ls hl => ?_)
        exact B_59 back_44 K_44 300 x1 x2 x3 x4 x5 x6 x7 1 0 v_hand_shown _ _ _ hP hD hS (lv_sub hl [2, 3, 4, 5, 6, 7, 8, 1, 0] rfl) hf
  unfold f_PR_wet at hf
  have E : ∀ (H : Heap) (locs : List Loc), va_P D classes (cs_PR_wet cI cZ a_p0 a_hall a_hall_layers a_hall_kinds a_hall_wanted a_now a_now_off a_hand a_hand_shown z_text z_trial z_acts z_slots z_seen z_hall_patiences z_now_waited v_actCount v_slotsKept v_seed v_hall_count v_hall_layers v_hall_kinds v_hall_wanted v_now_nights v_now_off v_hand_shown) H → va_S A s.heap H locs → W p l e (rm_ 4 (40 * 4)) s m args below meth c H locs 0 0 Q (F0 m 0 ls []) := by
    intro H locs hP hS
    refine lv_iload_n hx hb d_PR_wet_0 rfl (lv_at hl 1 rfl) ?_
    refine lv_if_lt (tgt := 19) hx hb d_PR_wet_1 (by decide) (fun c1 => ?_) (fun c1 => ?_)
    · have hf := o_pos c1 hf
      exact B_19 v_hand_shown _ _ _ hP hD hS (lv_sub hl [] rfl) hf
    · have hf := o_neg c1 hf
      refine lv_iload_n hx hb d_PR_wet_4 rfl (lv_at hl 1 rfl) ?_
      refine lv_iconst (v := 5) hx hb d_PR_wet_5 (by decide) ?_
      refine lv_icmp_gt (tgt := 19) hx hb d_PR_wet_6 (by decide) (fun c2 => ?_) (fun c2 => ?_)
      · have hf := o_pos c2 hf
        exact B_19 v_hand_shown _ _ _ hP hD hS (lv_sub hl [] rfl) hf
      · have hf := o_neg c2 hf
        refine lv_iload_n hx hb d_PR_wet_9 rfl (lv_at hl 2 rfl) ?_
        refine lv_if_lt (tgt := 19) hx hb d_PR_wet_10 (by decide) (fun c3 => ?_) (fun c3 => ?_)
        · have hf := o_pos c3 hf
          exact B_19 v_hand_shown _ _ _ hP hD hS (lv_sub hl [] rfl) hf
        · have hf := o_neg c3 hf
          refine lv_iload_n hx hb d_PR_wet_13 rfl (lv_at hl 2 rfl) ?_
          refine lv_bipush (v := 10) hx hb d_PR_wet_14 (by decide) ?_
          refine lv_icmp_le (tgt := 22) hx hb d_PR_wet_16 (by decide) (fun c4 => ?_) (fun c4 => ?_)
          · have hf := o_pos c4 hf
            refine lv_aload_n hx hb d_PR_wet_22 rfl (lv_at hl 0 rfl) ?_
            refine lv_aload_n hx hb d_PR_wet_23 rfl (lv_at hl 0 rfl) ?_
            refine gf_PR_26 hC hP 0 rfl rfl d_PR_wet_24 ?_
            obtain ⟨r5, h6, hf⟩ := o_bind hf
            refine cVi (rest := []) (wr := []) (wn := (cs_PR_wet cI cZ a_p0 a_hall a_hall_layers a_hall_kinds a_hall_wanted a_now a_now_off a_hand a_hand_shown z_text z_trial z_acts z_slots z_seen z_hall_patiences z_now_waited v_actCount v_slotsKept v_seed v_hall_count v_hall_layers v_hall_kinds v_hall_wanted v_now_nights v_now_off r5.2)) (c_PR_hailedIn l D cI cZ a_p0 a_hall a_hall_layers a_hall_kinds a_hall_wanted a_hand a_hand_shown a_now a_now_off z_text a_now z_trial z_acts z_slots z_seen z_hall_patiences z_now_waited v_actCount v_slotsKept v_seed v_hall_count v_hall_layers v_hall_kinds v_hall_wanted v_hand_shown v_now_nights v_now_off r5 h6) hC hA hP hD hS hl.1 cw_PR_97 0 rfl rfl rfl ⟨Nat.le_of_ble_eq_true rfl, Nat.le_of_ble_eq_true rfl⟩ rfl rfl (Nat.le_of_ble_eq_true rfl) d_PR_wet_27 ⟨Nat.zero_le _, Nat.zero_le _⟩ [0, 1, 2, 3, 4, 7, 8, 5, 6] [] [0, 1, 2, 3, 4, 7, 8, 5, 6] (by decide) (Cut_mk rfl rfl (by decide) (by decide) (by decide) rfl) (fun H locs hP hD hS => ?_)
            obtain ⟨r7, h8, hf⟩ := o_bind hf
            refine cSi0 (rest := []) (c_Int_bitCount l D cI cZ r5.1 r7 h8) hC hA hP hD hS hl.1 cw_PR_141 ⟨Nat.le_of_ble_eq_true rfl, Nat.le_of_ble_eq_true rfl⟩ rfl rfl (Nat.le_of_ble_eq_true rfl) d_PR_wet_30 ⟨Nat.zero_le _, Nat.zero_le _⟩ (fun H locs hP hS => ?_)
            refine lv_istore (lv' := [(4, .int r7), (0, .ref a_p0), (1, .int i1), (2, .int i2), (3, .int i3)]) hx hb d_PR_wet_33 hl (by decide) rfl (fun ls hl => ?_)
            refine lv_iconst (v := 0) hx hb d_PR_wet_35 (by decide) ?_
            refine lv_istore (lv' := [(5, .int 0), (4, .int r7), (0, .ref a_p0), (1, .int i1), (2, .int i2), (3, .int i3)]) hx hb d_PR_wet_36 hl (by decide) rfl (fun ls hl => ?_)
            refine lv_iconst (v := 0) hx hb d_PR_wet_38 (by decide) ?_
            refine lv_istore (lv' := [(6, .int 0), (5, .int 0), (4, .int r7), (0, .ref a_p0), (1, .int i1), (2, .int i2), (3, .int i3)]) hx hb d_PR_wet_39 hl (by decide) rfl (fun ls hl => ?_)
            refine lv_iconst (v := 0) hx hb d_PR_wet_41 (by decide) ?_
            refine lv_istore (lv' := [(7, .int 0), (6, .int 0), (5, .int 0), (4, .int r7), (0, .ref a_p0), (1, .int i1), (2, .int i2), (3, .int i3)]) hx hb d_PR_wet_42 hl (by decide) rfl (fun ls hl => ?_)
            exact B_44 300 i1 i2 i3 r7 0 0 0 r5.2 _ _ _ hP hD hS (lv_sub hl [5, 6, 7, 3, 2, 1, 0] rfl) hf
          · have hf := o_neg c4 hf
            exact B_19 v_hand_shown _ _ _ hP hD hS (lv_sub hl [] rfl) hf
  exact E _ _ hP hS
set_option maxHeartbeats 4000000 in
set_option maxRecDepth 100000 in
theorem c_PR_seed (l : Launch) (D : va_G) (cI cZ : ClassId) (a_p0 z_text z_hall z_now z_trial z_hand z_acts z_slots z_seen : Nat) (i1 : Int64) (v_actCount : Int32) (v_slotsKept : Int32) (v_seed : Int64) (res : Int64 × Int64) (hf : f_PR_seed i1 v_seed = some res) : CtL l y_PR_seed b_PR_seed 5 (some .long) 0 D cI cZ [.ref a_p0, .long i1] (cs_PR_seed cI cZ a_p0 z_text z_hall z_now z_trial z_hand z_acts z_slots z_seen v_actCount v_slotsKept v_seed) res.1 (cs_PR_seed cI cZ a_p0 z_text z_hall z_now z_trial z_hand z_acts z_slots z_seen v_actCount v_slotsKept res.2) := by
  refine CtL_mk (by decide) (Nat.le_of_ble_eq_true rfl) ?_
  intro p e s m args below meth c A Q hC hA hP hD RET ls hl
  have hC : Cx p s m args meth c b_PR_seed 5 R_PR D cI cZ := hC
  have hl : lv_has ls 5 [(0, .ref a_p0), (1, .long i1)] := hl
  obtain ⟨hx, hb, hml, hown, hts, hlk, hKK⟩ := id hC
  have hS : va_S A s.heap s.heap [] := va_S.rf
  unfold f_PR_seed at hf
  have E : ∀ (H : Heap) (locs : List Loc), va_P D classes (cs_PR_seed cI cZ a_p0 z_text z_hall z_now z_trial z_hand z_acts z_slots z_seen v_actCount v_slotsKept v_seed) H → va_S A s.heap H locs → W p l e (rm_ 0 (40 * 0)) s m args below meth c H locs 0 0 Q (F0 m 0 ls []) := by
    intro H locs hP hS
    refine lv_aload_n hx hb d_PR_seed_0 rfl (lv_at hl 0 rfl) ?_
    refine gf_PR_66 hC hP 0 rfl rfl d_PR_seed_1 ?_
    refine lv_lstore_n (lv' := [(3, .long v_seed), (0, .ref a_p0), (1, .long i1)]) hx hb d_PR_seed_4 rfl hl (by decide) rfl (fun ls hl => ?_)
    refine lv_aload_n hx hb d_PR_seed_5 rfl (lv_at hl 1 rfl) ?_
    refine lv_lload_n hx hb d_PR_seed_6 rfl (lv_at hl 2 rfl) ?_
    refine pf_PR_66 hC hP hD hS 0 rfl (Nat.le_of_ble_eq_true rfl) d_PR_seed_7 (fun H locs hP hD hS => ?_)
    have hP : va_P D classes (cs_PR_seed cI cZ a_p0 z_text z_hall z_now z_trial z_hand z_acts z_slots z_seen v_actCount v_slotsKept i1) H := hP
    have hD : va_D A (cs_PR_seed cI cZ a_p0 z_text z_hall z_now z_trial z_hand z_acts z_slots z_seen v_actCount v_slotsKept i1) := hD
    refine lv_lload_n hx hb d_PR_seed_10 rfl (lv_at hl 0 rfl) ?_
    have hr := Option.some.inj hf
    exact RET _ _ _ _ _ _ (congrArg (fun r : Int64 × Int64 => r.1) hr) (congrArg (fun r : Int64 × Int64 => (cs_PR_seed cI cZ a_p0 z_text z_hall z_now z_trial z_hand z_acts z_slots z_seen v_actCount v_slotsKept r.2)) hr) hP hD hS d_PR_seed_11
  exact E _ _ hP hS
set_option maxHeartbeats 4000000 in
set_option maxRecDepth 100000 in
theorem c_PR_years (l : Launch) (D : va_G) (cI cZ : ClassId) (a_p0 a_hall a_hall_layers a_hall_kinds a_hall_patiences a_hall_wanted a_now a_now_off a_now_waited a_trial a_trial_off a_trial_waited a_hand a_hand_shown z_text z_acts z_slots z_seen : Nat) (i1 : Int32) (v_actCount : Int32) (v_slotsKept : Int32) (v_seed : Int64) (v_hall_count : Int32) (v_hall_layers : Nat → Int32) (v_hall_kinds : Nat → Int32) (v_hall_patiences : Nat → Int32) (v_hall_wanted : Nat → Int32) (v_now_nights : Int32) (v_now_off : Nat → Int32) (v_now_waited : Nat → Int32) (v_trial_nights : Int32) (v_trial_off : Nat → Int32) (v_trial_waited : Nat → Int32) (v_hand_shown : Nat → Int32) (res : Int32 × Int64 × Int32 × (Nat → Int32) × (Nat → Int32) × (Nat → Int32)) (hf : f_PR_years i1 v_hall_count v_hall_layers v_hall_kinds v_hall_patiences v_hall_wanted v_now_nights v_now_off v_now_waited v_seed v_trial_nights v_trial_off v_trial_waited v_hand_shown = some res) : CtI l y_PR_years b_PR_years 6 (some .int) 6 D cI cZ [.ref a_p0, .int i1] (cs_PR_years cI cZ a_p0 a_hall a_hall_layers a_hall_kinds a_hall_patiences a_hall_wanted a_now a_now_off a_now_waited a_trial a_trial_off a_trial_waited a_hand a_hand_shown z_text z_acts z_slots z_seen v_actCount v_slotsKept v_seed v_hall_count v_hall_layers v_hall_kinds v_hall_patiences v_hall_wanted v_now_nights v_now_off v_now_waited v_trial_nights v_trial_off v_trial_waited v_hand_shown) res.1 (cs_PR_years cI cZ a_p0 a_hall a_hall_layers a_hall_kinds a_hall_patiences a_hall_wanted a_now a_now_off a_now_waited a_trial a_trial_off a_trial_waited a_hand a_hand_shown z_text z_acts z_slots z_seen v_actCount v_slotsKept res.2.1 v_hall_count v_hall_layers v_hall_kinds v_hall_patiences v_hall_wanted v_now_nights v_now_off v_now_waited res.2.2.1 res.2.2.2.1 res.2.2.2.2.1 res.2.2.2.2.2) := by
  refine CtI_mk (by decide) (Nat.le_of_ble_eq_true rfl) ?_
  intro p e s m args below meth c A Q hC hA hP hD RET ls hl
  have hC : Cx p s m args meth c b_PR_years 6 R_PR D cI cZ := hC
  have hl : lv_has ls 6 [(0, .ref a_p0), (1, .int i1)] := hl
  obtain ⟨hx, hb, hml, hown, hts, hlk, hKK⟩ := id hC
  have hS : va_S A s.heap s.heap [] := va_S.rf
  have B_11 : ∀  (v_seed : Int64) (v_trial_nights : Int32) (v_trial_off : Nat → Int32) (v_trial_waited : Nat → Int32) (v_hand_shown : Nat → Int32) (H : Heap) (locs : List Loc) (ls : Array Slot), va_P D classes (cs_PR_years cI cZ a_p0 a_hall a_hall_layers a_hall_kinds a_hall_patiences a_hall_wanted a_now a_now_off a_now_waited a_trial a_trial_off a_trial_waited a_hand a_hand_shown z_text z_acts z_slots z_seen v_actCount v_slotsKept v_seed v_hall_count v_hall_layers v_hall_kinds v_hall_patiences v_hall_wanted v_now_nights v_now_off v_now_waited v_trial_nights v_trial_off v_trial_waited v_hand_shown) H → va_D A (cs_PR_years cI cZ a_p0 a_hall a_hall_layers a_hall_kinds a_hall_patiences a_hall_wanted a_now a_now_off a_now_waited a_trial a_trial_off a_trial_waited a_hand a_hand_shown z_text z_acts z_slots z_seen v_actCount v_slotsKept v_seed v_hall_count v_hall_layers v_hall_kinds v_hall_patiences v_hall_wanted v_now_nights v_now_off v_now_waited v_trial_nights v_trial_off v_trial_waited v_hand_shown) → va_S A s.heap H locs → lv_has ls 6 [] → f_PR_years_11  v_hall_count v_hall_layers v_hall_kinds v_hall_patiences v_hall_wanted v_now_nights v_now_off v_now_waited v_seed v_trial_nights v_trial_off v_trial_waited v_hand_shown = some res → W p l e (rm_ 6 (40 * 6)) s m args below meth c H locs 0 0 Q (F0 m 11 ls []) := by
    intro  v_seed v_trial_nights v_trial_off v_trial_waited v_hand_shown H locs ls hP hD hS hl hf
    unfold f_PR_years_11 at hf
    refine lv_bipush (v := (-2)) hx hb d_PR_years_11 (by decide) ?_
    have hr := Option.some.inj hf
    exact RET _ _ _ _ _ _ rfl (congrArg (fun r : Int32 × Int64 × Int32 × (Nat → Int32) × (Nat → Int32) × (Nat → Int32) => r.1) hr) (congrArg (fun r : Int32 × Int64 × Int32 × (Nat → Int32) × (Nat → Int32) × (Nat → Int32) => (cs_PR_years cI cZ a_p0 a_hall a_hall_layers a_hall_kinds a_hall_patiences a_hall_wanted a_now a_now_off a_now_waited a_trial a_trial_off a_trial_waited a_hand a_hand_shown z_text z_acts z_slots z_seen v_actCount v_slotsKept r.2.1 v_hall_count v_hall_layers v_hall_kinds v_hall_patiences v_hall_wanted v_now_nights v_now_off v_now_waited r.2.2.1 r.2.2.2.1 r.2.2.2.2.1 r.2.2.2.2.2)) hr) hP hD hS d_PR_years_13
  have B_108 : ∀ (back_29 : Int32 → Int32 → Int32 → Int64 → Int32 → (Nat → Int32) → (Nat → Int32) → (Nat → Int32) → Option (Int32 × Int64 × Int32 × (Nat → Int32) × (Nat → Int32) × (Nat → Int32))) (K_29 : ∀ (x1 : Int32) (x2 : Int32) (x3 : Int32) (v_seed : Int64) (v_trial_nights : Int32) (v_trial_off : Nat → Int32) (v_trial_waited : Nat → Int32) (v_hand_shown : Nat → Int32) (H : Heap) (locs : List Loc) (ls : Array Slot), va_P D classes (cs_PR_years cI cZ a_p0 a_hall a_hall_layers a_hall_kinds a_hall_patiences a_hall_wanted a_now a_now_off a_now_waited a_trial a_trial_off a_trial_waited a_hand a_hand_shown z_text z_acts z_slots z_seen v_actCount v_slotsKept v_seed v_hall_count v_hall_layers v_hall_kinds v_hall_patiences v_hall_wanted v_now_nights v_now_off v_now_waited v_trial_nights v_trial_off v_trial_waited v_hand_shown) H → va_D A (cs_PR_years cI cZ a_p0 a_hall a_hall_layers a_hall_kinds a_hall_patiences a_hall_wanted a_now a_now_off a_now_waited a_trial a_trial_off a_trial_waited a_hand a_hand_shown z_text z_acts z_slots z_seen v_actCount v_slotsKept v_seed v_hall_count v_hall_layers v_hall_kinds v_hall_patiences v_hall_wanted v_now_nights v_now_off v_now_waited v_trial_nights v_trial_off v_trial_waited v_hand_shown) → va_S A s.heap H locs → lv_has ls 6 [(0, .ref a_p0), (1, .int x1), (2, .int x2), (3, .int x3)] → back_29 x1 x2 x3 v_seed v_trial_nights v_trial_off v_trial_waited v_hand_shown = some res → W p l e (rm_ 6 (40 * 6)) s m args below meth c H locs 0 0 Q (F0 m 29 ls [])) (x1 : Int32) (x2 : Int32) (x3 : Int32) (w2 : Int32) (w3 : Int32) (v_seed : Int64) (v_trial_nights : Int32) (v_trial_off : Nat → Int32) (v_trial_waited : Nat → Int32) (v_hand_shown : Nat → Int32) (H : Heap) (locs : List Loc) (ls : Array Slot), va_P D classes (cs_PR_years cI cZ a_p0 a_hall a_hall_layers a_hall_kinds a_hall_patiences a_hall_wanted a_now a_now_off a_now_waited a_trial a_trial_off a_trial_waited a_hand a_hand_shown z_text z_acts z_slots z_seen v_actCount v_slotsKept v_seed v_hall_count v_hall_layers v_hall_kinds v_hall_patiences v_hall_wanted v_now_nights v_now_off v_now_waited v_trial_nights v_trial_off v_trial_waited v_hand_shown) H → va_D A (cs_PR_years cI cZ a_p0 a_hall a_hall_layers a_hall_kinds a_hall_patiences a_hall_wanted a_now a_now_off a_now_waited a_trial a_trial_off a_trial_waited a_hand a_hand_shown z_text z_acts z_slots z_seen v_actCount v_slotsKept v_seed v_hall_count v_hall_layers v_hall_kinds v_hall_patiences v_hall_wanted v_now_nights v_now_off v_now_waited v_trial_nights v_trial_off v_trial_waited v_hand_shown) → va_S A s.heap H locs → lv_has ls 6 [(0, .ref a_p0), (1, .int x1), (2, .int x2), (3, .int x3)] → f_PR_years_108 back_29 v_hall_count v_hall_layers v_hall_kinds v_hall_patiences v_hall_wanted v_now_nights v_now_off v_now_waited x1 x2 x3 w2 w3 v_seed v_trial_nights v_trial_off v_trial_waited v_hand_shown = some res → W p l e (rm_ 6 (40 * 6)) s m args below meth c H locs 0 0 Q (F0 m 108 ls [.int w3, .int w2, .ref a_trial, .ref a_p0]) := by
    intro back_29 K_29 x1 x2 x3 w2 w3 v_seed v_trial_nights v_trial_off v_trial_waited v_hand_shown H locs ls hP hD hS hl hf
    unfold f_PR_years_108 at hf
    obtain ⟨r1, h2, hf⟩ := o_bind hf
    refine cVi (rest := []) (wr := [(a_now, .inr (2, [.ref a_now_off, .ref a_now_waited, .int v_now_nights])), (a_now_off, .inl (cI, 4, .inl v_now_off)), (a_now_waited, .inl (cI, 5, .inl v_now_waited))]) (wn := (cs_PR_years cI cZ a_p0 a_hall a_hall_layers a_hall_kinds a_hall_patiences a_hall_wanted a_now a_now_off a_now_waited a_trial a_trial_off a_trial_waited a_hand a_hand_shown z_text z_acts z_slots z_seen v_actCount v_slotsKept v_seed v_hall_count v_hall_layers v_hall_kinds v_hall_patiences v_hall_wanted v_now_nights v_now_off v_now_waited r1.2.2.1 r1.2.2.2.1 r1.2.2.2.2 r1.2.1)) (c_PR_attempt l D cI cZ a_p0 a_hall a_hall_layers a_hall_kinds a_hall_patiences a_hall_wanted a_hand a_hand_shown a_trial a_trial_off a_trial_waited z_text a_now a_trial z_acts z_slots z_seen w2 w3 v_actCount v_slotsKept v_seed v_hall_count v_hall_layers v_hall_kinds v_hall_patiences v_hall_wanted v_hand_shown v_trial_nights v_trial_off v_trial_waited r1 h2) hC hA hP hD hS hl.1 cw_PR_198 0 rfl rfl rfl ⟨Nat.le_of_ble_eq_true rfl, Nat.le_of_ble_eq_true rfl⟩ rfl rfl (Nat.le_of_ble_eq_true rfl) d_PR_years_108 ⟨Nat.zero_le _, Nat.zero_le _⟩ [0, 1, 2, 3, 4, 5, 12, 13, 9, 10, 11] [6, 7, 8] [3, 4, 5, 6, 7, 8, 0, 1, 2, 11, 12, 13, 9, 10] (by decide) (Cut_mk rfl rfl (by decide) (by decide) (by decide) rfl) (fun H locs hP hD hS => ?_)
    refine lv_pop hx hb d_PR_years_111 rfl ?_
    refine lv_iload_n hx hb d_PR_years_112 rfl (lv_at hl 2 rfl) ?_
    refine lv_aload_n hx hb d_PR_years_113 rfl (lv_at hl 0 rfl) ?_
    refine gf_PR_30 hC hP 0 rfl rfl d_PR_years_114 ?_
    obtain ⟨r3, h4, hf⟩ := o_bind hf
    refine cVi (rest := [.int x2]) (wr := [(a_p0, .inr (6, [.ref z_text, .ref a_hall, .ref a_now, .ref a_trial, .ref a_hand, .ref z_acts, .ref z_slots, .ref z_seen, .int v_actCount, .int v_slotsKept, .long v_seed])), (a_hall, .inr (0, [.ref a_hall_layers, .ref a_hall_kinds, .ref a_hall_patiences, .ref a_hall_wanted, .int v_hall_count])), (a_hall_layers, .inl (cI, 12, .inl v_hall_layers)), (a_hall_kinds, .inl (cI, 5, .inl v_hall_kinds)), (a_hall_patiences, .inl (cI, 5, .inl v_hall_patiences)), (a_hall_wanted, .inl (cI, 20, .inl v_hall_wanted)), (a_now, .inr (2, [.ref a_now_off, .ref a_now_waited, .int v_now_nights])), (a_now_off, .inl (cI, 4, .inl v_now_off)), (a_now_waited, .inl (cI, 5, .inl v_now_waited)), (a_trial_off, .inl (cI, 4, .inl r1.2.2.2.1)), (a_hand, .inr (1, [.ref a_hand_shown])), (a_hand_shown, .inl (cI, 4, .inl r1.2.1))]) (wn := (cs_PR_years cI cZ a_p0 a_hall a_hall_layers a_hall_kinds a_hall_patiences a_hall_wanted a_now a_now_off a_now_waited a_trial a_trial_off a_trial_waited a_hand a_hand_shown z_text z_acts z_slots z_seen v_actCount v_slotsKept v_seed v_hall_count v_hall_layers v_hall_kinds v_hall_patiences v_hall_wanted v_now_nights v_now_off v_now_waited r1.2.2.1 r1.2.2.2.1 r1.2.2.2.2 r1.2.1)) (c_Scene_waiting l D cI cZ a_trial a_trial_waited a_trial_off r1.2.2.1 r1.2.2.2.2 r3 h4) hC hA hP hD hS hl.1 cw_PR_91 9 rfl rfl rfl ⟨Nat.le_of_ble_eq_true rfl, Nat.le_of_ble_eq_true rfl⟩ rfl rfl (Nat.le_of_ble_eq_true rfl) d_PR_years_117 ⟨Nat.zero_le _, Nat.zero_le _⟩ [9, 11] [0, 1, 2, 3, 4, 5, 6, 7, 8, 10, 12, 13] [0, 1, 2, 3, 4, 5, 6, 7, 8, 12, 9, 13, 10, 11] (by decide) (Cut_mk rfl rfl (by decide) (by decide) (by decide) rfl) (fun H locs hP hD hS => ?_)
    obtain ⟨r5, h6, hf⟩ := o_bind hf
    refine cSi0 (rest := [.int x2]) (c_Int_bitCount l D cI cZ r3 r5 h6) hC hA hP hD hS hl.1 cw_PR_141 ⟨Nat.le_of_ble_eq_true rfl, Nat.le_of_ble_eq_true rfl⟩ rfl rfl (Nat.le_of_ble_eq_true rfl) d_PR_years_120 ⟨Nat.zero_le _, Nat.zero_le _⟩ (fun H locs hP hS => ?_)
    refine lv_iadd hx hb d_PR_years_123 ?_
    refine lv_istore_n (lv' := [(2, .int (x2 + r5)), (0, .ref a_p0), (1, .int x1), (3, .int x3)]) hx hb d_PR_years_124 rfl hl (by decide) rfl (fun ls hl => ?_)
    refine lv_iinc (v := x3 + 1) (lv' := [(3, .int (x3 + 1)), (2, .int (x2 + r5)), (0, .ref a_p0), (1, .int x1)]) hx hb d_PR_years_125 hl (k := 3) rfl (rfl) (by decide) rfl (fun ls hl => ?_)
    refine lv_goto (tgt := 29) hx hb d_PR_years_128 (by decide) ?_
    exact K_29 x1 (x2 + r5) (x3 + 1) v_seed r1.2.2.1 r1.2.2.2.1 r1.2.2.2.2 r1.2.1 _ _ _ hP hD hS (lv_sub hl [2, 3, 1, 0] rfl) hf
  have B_86 : ∀ (back_29 : Int32 → Int32 → Int32 → Int64 → Int32 → (Nat → Int32) → (Nat → Int32) → (Nat → Int32) → Option (Int32 × Int64 × Int32 × (Nat → Int32) × (Nat → Int32) × (Nat → Int32))) (K_29 : ∀ (x1 : Int32) (x2 : Int32) (x3 : Int32) (v_seed : Int64) (v_trial_nights : Int32) (v_trial_off : Nat → Int32) (v_trial_waited : Nat → Int32) (v_hand_shown : Nat → Int32) (H : Heap) (locs : List Loc) (ls : Array Slot), va_P D classes (cs_PR_years cI cZ a_p0 a_hall a_hall_layers a_hall_kinds a_hall_patiences a_hall_wanted a_now a_now_off a_now_waited a_trial a_trial_off a_trial_waited a_hand a_hand_shown z_text z_acts z_slots z_seen v_actCount v_slotsKept v_seed v_hall_count v_hall_layers v_hall_kinds v_hall_patiences v_hall_wanted v_now_nights v_now_off v_now_waited v_trial_nights v_trial_off v_trial_waited v_hand_shown) H → va_D A (cs_PR_years cI cZ a_p0 a_hall a_hall_layers a_hall_kinds a_hall_patiences a_hall_wanted a_now a_now_off a_now_waited a_trial a_trial_off a_trial_waited a_hand a_hand_shown z_text z_acts z_slots z_seen v_actCount v_slotsKept v_seed v_hall_count v_hall_layers v_hall_kinds v_hall_patiences v_hall_wanted v_now_nights v_now_off v_now_waited v_trial_nights v_trial_off v_trial_waited v_hand_shown) → va_S A s.heap H locs → lv_has ls 6 [(0, .ref a_p0), (1, .int x1), (2, .int x2), (3, .int x3)] → back_29 x1 x2 x3 v_seed v_trial_nights v_trial_off v_trial_waited v_hand_shown = some res → W p l e (rm_ 6 (40 * 6)) s m args below meth c H locs 0 0 Q (F0 m 29 ls [])) (x1 : Int32) (x2 : Int32) (x3 : Int32) (x4 : Int32) (w0 : Int32) (v_seed : Int64) (v_trial_nights : Int32) (v_trial_off : Nat → Int32) (v_trial_waited : Nat → Int32) (v_hand_shown : Nat → Int32) (H : Heap) (locs : List Loc) (ls : Array Slot), va_P D classes (cs_PR_years cI cZ a_p0 a_hall a_hall_layers a_hall_kinds a_hall_patiences a_hall_wanted a_now a_now_off a_now_waited a_trial a_trial_off a_trial_waited a_hand a_hand_shown z_text z_acts z_slots z_seen v_actCount v_slotsKept v_seed v_hall_count v_hall_layers v_hall_kinds v_hall_patiences v_hall_wanted v_now_nights v_now_off v_now_waited v_trial_nights v_trial_off v_trial_waited v_hand_shown) H → va_D A (cs_PR_years cI cZ a_p0 a_hall a_hall_layers a_hall_kinds a_hall_patiences a_hall_wanted a_now a_now_off a_now_waited a_trial a_trial_off a_trial_waited a_hand a_hand_shown z_text z_acts z_slots z_seen v_actCount v_slotsKept v_seed v_hall_count v_hall_layers v_hall_kinds v_hall_patiences v_hall_wanted v_now_nights v_now_off v_now_waited v_trial_nights v_trial_off v_trial_waited v_hand_shown) → va_S A s.heap H locs → lv_has ls 6 [(0, .ref a_p0), (1, .int x1), (2, .int x2), (3, .int x3), (4, .int x4)] → f_PR_years_86 back_29 v_hall_count v_hall_layers v_hall_kinds v_hall_patiences v_hall_wanted v_now_nights v_now_off v_now_waited x1 x2 x3 x4 w0 v_seed v_trial_nights v_trial_off v_trial_waited v_hand_shown = some res → W p l e (rm_ 6 (40 * 6)) s m args below meth c H locs 0 0 Q (F0 m 86 ls [.int w0]) := by
    intro back_29 K_29 x1 x2 x3 x4 w0 v_seed v_trial_nights v_trial_off v_trial_waited v_hand_shown H locs ls hP hD hS hl hf
    unfold f_PR_years_86 at hf
    refine lv_istore (lv' := [(5, .int w0), (0, .ref a_p0), (1, .int x1), (2, .int x2), (3, .int x3), (4, .int x4)]) hx hb d_PR_years_86 hl (by decide) rfl (fun ls hl => ?_)
    refine lv_aload_n hx hb d_PR_years_88 rfl (lv_at hl 1 rfl) ?_
    refine lv_aload_n hx hb d_PR_years_89 rfl (lv_at hl 1 rfl) ?_
    refine gf_PR_30 hC hP 0 rfl rfl d_PR_years_90 ?_
    refine lv_iload hx hb d_PR_years_93 (lv_at hl 0 rfl) ?_
    refine lv_iload hx hb d_PR_years_95 (lv_at hl 0 rfl) ?_
    refine lv_if_ne (tgt := 104) hx hb d_PR_years_97 (by decide) (fun c1 => ?_) (fun c1 => ?_)
    · have hf := o_neg c1 hf
      refine lv_iload hx hb d_PR_years_104 (lv_at hl 5 rfl) ?_
      refine lv_iconst (v := 4) hx hb d_PR_years_106 (by decide) ?_
      refine lv_irem hx hb d_PR_years_107 (by decide) ?_
      exact B_108 back_29 K_29 x1 x2 x3 w0 (rmI x4 4) v_seed v_trial_nights v_trial_off v_trial_waited v_hand_shown _ _ _ hP hD hS (lv_sub hl [1, 2, 3, 4] rfl) hf
    · have hf := o_pos c1 hf
      refine lv_iconst (v := 0) hx hb d_PR_years_100 (by decide) ?_
      refine lv_goto (tgt := 108) hx hb d_PR_years_101 (by decide) ?_
      exact B_108 back_29 K_29 x1 x2 x3 w0 0 v_seed v_trial_nights v_trial_off v_trial_waited v_hand_shown _ _ _ hP hD hS (lv_sub hl [1, 2, 3, 4] rfl) hf
  have B_29 : ∀  (n : Nat) (x1 : Int32) (x2 : Int32) (x3 : Int32) (v_seed : Int64) (v_trial_nights : Int32) (v_trial_off : Nat → Int32) (v_trial_waited : Nat → Int32) (v_hand_shown : Nat → Int32) (H : Heap) (locs : List Loc) (ls : Array Slot), va_P D classes (cs_PR_years cI cZ a_p0 a_hall a_hall_layers a_hall_kinds a_hall_patiences a_hall_wanted a_now a_now_off a_now_waited a_trial a_trial_off a_trial_waited a_hand a_hand_shown z_text z_acts z_slots z_seen v_actCount v_slotsKept v_seed v_hall_count v_hall_layers v_hall_kinds v_hall_patiences v_hall_wanted v_now_nights v_now_off v_now_waited v_trial_nights v_trial_off v_trial_waited v_hand_shown) H → va_D A (cs_PR_years cI cZ a_p0 a_hall a_hall_layers a_hall_kinds a_hall_patiences a_hall_wanted a_now a_now_off a_now_waited a_trial a_trial_off a_trial_waited a_hand a_hand_shown z_text z_acts z_slots z_seen v_actCount v_slotsKept v_seed v_hall_count v_hall_layers v_hall_kinds v_hall_patiences v_hall_wanted v_now_nights v_now_off v_now_waited v_trial_nights v_trial_off v_trial_waited v_hand_shown) → va_S A s.heap H locs → lv_has ls 6 [(0, .ref a_p0), (1, .int x1), (2, .int x2), (3, .int x3)] → f_PR_years_29  v_hall_count v_hall_layers v_hall_kinds v_hall_patiences v_hall_wanted v_now_nights v_now_off v_now_waited n x1 x2 x3 v_seed v_trial_nights v_trial_off v_trial_waited v_hand_shown = some res → W p l e (rm_ 6 (40 * 6)) s m args below meth c H locs 0 0 Q (F0 m 29 ls []) := by
    intro  n
    induction n with
    | zero => intro x1 x2 x3 v_seed v_trial_nights v_trial_off v_trial_waited v_hand_shown H locs ls hP hD hS hl hf; exact nomatch hf
    | succ n ih =>
      intro x1 x2 x3 v_seed v_trial_nights v_trial_off v_trial_waited v_hand_shown H locs ls hP hD hS hl hf
      have hf : f_PR_years_29_b  (f_PR_years_29  v_hall_count v_hall_layers v_hall_kinds v_hall_patiences v_hall_wanted v_now_nights v_now_off v_now_waited n) v_hall_count v_hall_layers v_hall_kinds v_hall_patiences v_hall_wanted v_now_nights v_now_off v_now_waited x1 x2 x3 v_seed v_trial_nights v_trial_off v_trial_waited v_hand_shown = some res := hf
      generalize f_PR_years_29  v_hall_count v_hall_layers v_hall_kinds v_hall_patiences v_hall_wanted v_now_nights v_now_off v_now_waited n = back_29 at ih hf
      have K_29 := ih
      unfold f_PR_years_29_b at hf
      refine lv_iload_n hx hb d_PR_years_29 rfl (lv_at hl 3 rfl) ?_
      refine lv_iload_n hx hb d_PR_years_30 rfl (lv_at hl 1 rfl) ?_
      refine lv_icmp_ge (tgt := 131) hx hb d_PR_years_31 (by decide) (fun c1 => ?_) (fun c1 => ?_)
      · have hf := o_pos c1 hf
        refine lv_iload_n hx hb d_PR_years_131 rfl (lv_at hl 2 rfl) ?_
        have hr := Option.some.inj hf
        exact RET _ _ _ _ _ _ rfl (congrArg (fun r : Int32 × Int64 × Int32 × (Nat → Int32) × (Nat → Int32) × (Nat → Int32) => r.1) hr) (congrArg (fun r : Int32 × Int64 × Int32 × (Nat → Int32) × (Nat → Int32) × (Nat → Int32) => (cs_PR_years cI cZ a_p0 a_hall a_hall_layers a_hall_kinds a_hall_patiences a_hall_wanted a_now a_now_off a_now_waited a_trial a_trial_off a_trial_waited a_hand a_hand_shown z_text z_acts z_slots z_seen v_actCount v_slotsKept r.2.1 v_hall_count v_hall_layers v_hall_kinds v_hall_patiences v_hall_wanted v_now_nights v_now_off v_now_waited r.2.2.1 r.2.2.2.1 r.2.2.2.2.1 r.2.2.2.2.2)) hr) hP hD hS d_PR_years_132
      · have hf := o_neg c1 hf
        refine lv_aload_n hx hb d_PR_years_34 rfl (lv_at hl 0 rfl) ?_
        refine lv_aload_n hx hb d_PR_years_35 rfl (lv_at hl 0 rfl) ?_
        refine gf_PR_66 hC hP 0 rfl rfl d_PR_years_36 ?_
        refine lv_ldc2 (v := 6364136223846793005) hx hb hown (hts _ g494) d_PR_years_39 ?_
        refine lv_lmul hx hb d_PR_years_42 ?_
        refine lv_ldc2 (v := 1442695040888963407) hx hb hown (hts _ g495) d_PR_years_43 ?_
        refine lv_ladd hx hb d_PR_years_46 ?_
        refine pf_PR_66 hC hP hD hS 0 rfl (Nat.le_of_ble_eq_true rfl) d_PR_years_47 (fun H locs hP hD hS => ?_)
        have hP : va_P D classes (cs_PR_years cI cZ a_p0 a_hall a_hall_layers a_hall_kinds a_hall_patiences a_hall_wanted a_now a_now_off a_now_waited a_trial a_trial_off a_trial_waited a_hand a_hand_shown z_text z_acts z_slots z_seen v_actCount v_slotsKept ((v_seed * 6364136223846793005) + 1442695040888963407) v_hall_count v_hall_layers v_hall_kinds v_hall_patiences v_hall_wanted v_now_nights v_now_off v_now_waited v_trial_nights v_trial_off v_trial_waited v_hand_shown) H := hP
        have hD : va_D A (cs_PR_years cI cZ a_p0 a_hall a_hall_layers a_hall_kinds a_hall_patiences a_hall_wanted a_now a_now_off a_now_waited a_trial a_trial_off a_trial_waited a_hand a_hand_shown z_text z_acts z_slots z_seen v_actCount v_slotsKept ((v_seed * 6364136223846793005) + 1442695040888963407) v_hall_count v_hall_layers v_hall_kinds v_hall_patiences v_hall_wanted v_now_nights v_now_off v_now_waited v_trial_nights v_trial_off v_trial_waited v_hand_shown) := hD
        refine lv_aload_n hx hb d_PR_years_50 rfl (lv_at hl 0 rfl) ?_
        refine gf_PR_66 hC hP 0 rfl rfl d_PR_years_51 ?_
        refine lv_bipush (v := 33) hx hb d_PR_years_54 (by decide) ?_
        refine lv_lushr (v := usL ((v_seed * 6364136223846793005) + 1442695040888963407) 33) hx hb d_PR_years_56 rfl ?_
        refine lv_ldc2 (v := 12) hx hb hown (hts _ g496) d_PR_years_57 ?_
        refine lv_lrem hx hb d_PR_years_60 (by decide) ?_
        refine lv_l2i (v := Int64.toInt32 (rmL (usL ((v_seed * 6364136223846793005) + 1442695040888963407) 33) 12)) hx hb d_PR_years_61 rfl ?_
        refine lv_istore (lv' := [(4, .int (Int64.toInt32 (rmL (usL ((v_seed * 6364136223846793005) + 1442695040888963407) 33) 12))), (0, .ref a_p0), (1, .int x1), (2, .int x2), (3, .int x3)]) hx hb d_PR_years_62 hl (by decide) rfl (fun ls hl => ?_)
        refine lv_iload hx hb d_PR_years_64 (lv_at hl 0 rfl) ?_
        refine lv_iconst (v := 4) hx hb d_PR_years_66 (by decide) ?_
        refine lv_icmp_ge (tgt := 74) hx hb d_PR_years_67 (by decide) (fun c2 => ?_) (fun c2 => ?_)
        · have hf := o_pos c2 hf
          refine lv_iload hx hb d_PR_years_74 (lv_at hl 0 rfl) ?_
          refine lv_bipush (v := 8) hx hb d_PR_years_76 (by decide) ?_
          refine lv_icmp_ge (tgt := 85) hx hb d_PR_years_78 (by decide) (fun c3 => ?_) (fun c3 => ?_)
          · have hf := o_pos c3 hf
            refine lv_iconst (v := 0) hx hb d_PR_years_85 (by decide) ?_
            exact B_86 back_29 K_29 x1 x2 x3 (Int64.toInt32 (rmL (usL ((v_seed * 6364136223846793005) + 1442695040888963407) 33) 12)) 0 ((v_seed * 6364136223846793005) + 1442695040888963407) v_trial_nights v_trial_off v_trial_waited v_hand_shown _ _ _ hP hD hS (lv_sub hl [1, 2, 3, 4, 0] rfl) hf
          · have hf := o_neg c3 hf
            refine lv_iconst (v := 2) hx hb d_PR_years_81 (by decide) ?_
            refine lv_goto (tgt := 86) hx hb d_PR_years_82 (by decide) ?_
            exact B_86 back_29 K_29 x1 x2 x3 (Int64.toInt32 (rmL (usL ((v_seed * 6364136223846793005) + 1442695040888963407) 33) 12)) 2 ((v_seed * 6364136223846793005) + 1442695040888963407) v_trial_nights v_trial_off v_trial_waited v_hand_shown _ _ _ hP hD hS (lv_sub hl [1, 2, 3, 4, 0] rfl) hf
        · have hf := o_neg c2 hf
          refine lv_iconst (v := 1) hx hb d_PR_years_70 (by decide) ?_
          refine lv_goto (tgt := 86) hx hb d_PR_years_71 (by decide) ?_
          exact B_86 back_29 K_29 x1 x2 x3 (Int64.toInt32 (rmL (usL ((v_seed * 6364136223846793005) + 1442695040888963407) 33) 12)) 1 ((v_seed * 6364136223846793005) + 1442695040888963407) v_trial_nights v_trial_off v_trial_waited v_hand_shown _ _ _ hP hD hS (lv_sub hl [1, 2, 3, 4, 0] rfl) hf
  unfold f_PR_years at hf
  have E : ∀ (H : Heap) (locs : List Loc), va_P D classes (cs_PR_years cI cZ a_p0 a_hall a_hall_layers a_hall_kinds a_hall_patiences a_hall_wanted a_now a_now_off a_now_waited a_trial a_trial_off a_trial_waited a_hand a_hand_shown z_text z_acts z_slots z_seen v_actCount v_slotsKept v_seed v_hall_count v_hall_layers v_hall_kinds v_hall_patiences v_hall_wanted v_now_nights v_now_off v_now_waited v_trial_nights v_trial_off v_trial_waited v_hand_shown) H → va_S A s.heap H locs → W p l e (rm_ 6 (40 * 6)) s m args below meth c H locs 0 0 Q (F0 m 0 ls []) := by
    intro H locs hP hS
    refine lv_iload_n hx hb d_PR_years_0 rfl (lv_at hl 1 rfl) ?_
    refine lv_iconst (v := 1) hx hb d_PR_years_1 (by decide) ?_
    refine lv_icmp_lt (tgt := 11) hx hb d_PR_years_2 (by decide) (fun c1 => ?_) (fun c1 => ?_)
    · have hf := o_pos c1 hf
      exact B_11 v_seed v_trial_nights v_trial_off v_trial_waited v_hand_shown _ _ _ hP hD hS (lv_sub hl [] rfl) hf
    · have hf := o_neg c1 hf
      refine lv_iload_n hx hb d_PR_years_5 rfl (lv_at hl 1 rfl) ?_
      refine lv_bipush (v := 30) hx hb d_PR_years_6 (by decide) ?_
      refine lv_icmp_le (tgt := 14) hx hb d_PR_years_8 (by decide) (fun c2 => ?_) (fun c2 => ?_)
      · have hf := o_pos c2 hf
        refine lv_aload_n hx hb d_PR_years_14 rfl (lv_at hl 0 rfl) ?_
        refine gf_PR_30 hC hP 0 rfl rfl d_PR_years_15 ?_
        refine lv_aload_n hx hb d_PR_years_18 rfl (lv_at hl 0 rfl) ?_
        refine gf_PR_26 hC hP 0 rfl rfl d_PR_years_19 ?_
        obtain ⟨r3, h4, hf⟩ := o_bind hf
        refine cVv (rest := []) (wr := [(a_p0, .inr (6, [.ref z_text, .ref a_hall, .ref a_now, .ref a_trial, .ref a_hand, .ref z_acts, .ref z_slots, .ref z_seen, .int v_actCount, .int v_slotsKept, .long v_seed])), (a_hall, .inr (0, [.ref a_hall_layers, .ref a_hall_kinds, .ref a_hall_patiences, .ref a_hall_wanted, .int v_hall_count])), (a_hall_layers, .inl (cI, 12, .inl v_hall_layers)), (a_hall_kinds, .inl (cI, 5, .inl v_hall_kinds)), (a_hall_patiences, .inl (cI, 5, .inl v_hall_patiences)), (a_hall_wanted, .inl (cI, 20, .inl v_hall_wanted)), (a_hand, .inr (1, [.ref a_hand_shown])), (a_hand_shown, .inl (cI, 4, .inl v_hand_shown))]) (wn := (cs_PR_years cI cZ a_p0 a_hall a_hall_layers a_hall_kinds a_hall_patiences a_hall_wanted a_now a_now_off a_now_waited a_trial a_trial_off a_trial_waited a_hand a_hand_shown z_text z_acts z_slots z_seen v_actCount v_slotsKept v_seed v_hall_count v_hall_layers v_hall_kinds v_hall_patiences v_hall_wanted v_now_nights v_now_off v_now_waited r3.1 r3.2.1 r3.2.2 v_hand_shown)) (c_Scene_copy l D cI cZ a_trial a_trial_off a_trial_waited a_now a_now_off a_now_waited v_trial_nights v_trial_off v_trial_waited v_now_nights v_now_off v_now_waited r3 h4) hC hA hP hD hS hl.1 cw_PR_186 9 rfl rfl rfl ⟨Nat.le_of_ble_eq_true rfl, Nat.le_of_ble_eq_true rfl⟩ rfl rfl (Nat.le_of_ble_eq_true rfl) d_PR_years_22 ⟨Nat.zero_le _, Nat.zero_le _⟩ [9, 10, 11, 6, 7, 8] [0, 1, 2, 3, 4, 5, 12, 13] [0, 1, 2, 3, 4, 5, 11, 12, 13, 8, 9, 10, 6, 7] (by decide) (Cut_mk rfl rfl (by decide) (by decide) (by decide) rfl) (fun H locs hP hD hS => ?_)
        refine lv_iconst (v := 0) hx hb d_PR_years_25 (by decide) ?_
        refine lv_istore_n (lv' := [(2, .int 0), (0, .ref a_p0), (1, .int i1)]) hx hb d_PR_years_26 rfl hl (by decide) rfl (fun ls hl => ?_)
        refine lv_iconst (v := 0) hx hb d_PR_years_27 (by decide) ?_
        refine lv_istore_n (lv' := [(3, .int 0), (2, .int 0), (0, .ref a_p0), (1, .int i1)]) hx hb d_PR_years_28 rfl hl (by decide) rfl (fun ls hl => ?_)
        exact B_29 300 i1 0 0 v_seed r3.1 r3.2.1 r3.2.2 v_hand_shown _ _ _ hP hD hS (lv_sub hl [2, 3, 1, 0] rfl) hf
      · have hf := o_neg c2 hf
        exact B_11 v_seed v_trial_nights v_trial_off v_trial_waited v_hand_shown _ _ _ hP hD hS (lv_sub hl [] rfl) hf
  exact E _ _ hP hS
