set_option maxHeartbeats 4000000 in
set_option maxRecDepth 100000 in
theorem c_PM_under (l : Launch) (D : va_G) (cI cZ : ClassId) (a_p0 a_layer a_cabman a_page a_seenCabman a_seenFinger a_seenOff a_seenCame a_shows z_text z_readLayer z_readCabman z_trial z_book z_kept z_isKept z_value : Nat) (i1 : Int32) (i2 : Int32) (v_thrown : Int32) (v_textSize : Int32) (v_place : Int32) (v_cabmen : Int32) (v_readCabmen : Int32) (v_acts : Int32) (v_seen : Int32) (v_seed : Int64) (v_bestCleaning : Int32) (v_bestLayers : Int32) (v_bestMany : Int32) (v_underMany : Int32) (v_underLeast : Int32) (v_restMany : Int32) (v_restFirst : Int32) (v_layer : Nat → Int32) (v_cabman : Nat → Int32) (v_page : Nat → Int32) (v_seenCabman : Nat → Int32) (v_seenFinger : Nat → Int32) (v_seenOff : Nat → Int32) (v_seenCame : Nat → Int32) (v_shows : Nat → Int32) (res : Int32 × Int32 × Int32 × Int32 × (Nat → Int32)) (hf : f_PM_under i1 i2 v_cabmen v_seen v_layer v_cabman v_page v_seenCabman v_seenFinger v_seenOff v_seenCame v_thrown v_underMany v_underLeast v_shows = some res) : CtI l y_PM_under b_PM_under 3 (some .int) 3 D cI cZ [.ref a_p0, .int i1, .int i2] (cs_PM_under cI cZ a_p0 a_layer a_cabman a_page a_seenCabman a_seenFinger a_seenOff a_seenCame a_shows z_text z_readLayer z_readCabman z_trial z_book z_kept z_isKept z_value v_thrown v_textSize v_place v_cabmen v_readCabmen v_acts v_seen v_seed v_bestCleaning v_bestLayers v_bestMany v_underMany v_underLeast v_restMany v_restFirst v_layer v_cabman v_page v_seenCabman v_seenFinger v_seenOff v_seenCame v_shows) res.1 (cs_PM_under cI cZ a_p0 a_layer a_cabman a_page a_seenCabman a_seenFinger a_seenOff a_seenCame a_shows z_text z_readLayer z_readCabman z_trial z_book z_kept z_isKept z_value res.2.1 v_textSize v_place v_cabmen v_readCabmen v_acts v_seen v_seed v_bestCleaning v_bestLayers v_bestMany res.2.2.1 res.2.2.2.1 v_restMany v_restFirst v_layer v_cabman v_page v_seenCabman v_seenFinger v_seenOff v_seenCame res.2.2.2.2) := by
  refine CtI_mk (by decide) (Nat.le_of_ble_eq_true rfl) ?_
  intro p e s m args below meth c A Q hC hA hP hD RET ls hl
  have hC : Cx p s m args meth c b_PM_under 3 R_PM D cI cZ := hC
  have hl : lv_has ls 3 [(0, .ref a_p0), (1, .int i1), (2, .int i2)] := hl
  obtain ⟨hx, hb, hml, hown, hts, hlk, hKK⟩ := id hC
  have hS : va_S A s.heap s.heap [] := va_S.rf
  have B_47 : ∀  (w0 : Int32) (v_thrown : Int32) (v_underMany : Int32) (v_underLeast : Int32) (v_shows : Nat → Int32) (H : Heap) (locs : List Loc) (ls : Array Slot), va_P D classes (cs_PM_under cI cZ a_p0 a_layer a_cabman a_page a_seenCabman a_seenFinger a_seenOff a_seenCame a_shows z_text z_readLayer z_readCabman z_trial z_book z_kept z_isKept z_value v_thrown v_textSize v_place v_cabmen v_readCabmen v_acts v_seen v_seed v_bestCleaning v_bestLayers v_bestMany v_underMany v_underLeast v_restMany v_restFirst v_layer v_cabman v_page v_seenCabman v_seenFinger v_seenOff v_seenCame v_shows) H → va_D A (cs_PM_under cI cZ a_p0 a_layer a_cabman a_page a_seenCabman a_seenFinger a_seenOff a_seenCame a_shows z_text z_readLayer z_readCabman z_trial z_book z_kept z_isKept z_value v_thrown v_textSize v_place v_cabmen v_readCabmen v_acts v_seen v_seed v_bestCleaning v_bestLayers v_bestMany v_underMany v_underLeast v_restMany v_restFirst v_layer v_cabman v_page v_seenCabman v_seenFinger v_seenOff v_seenCame v_shows) → va_S A s.heap H locs → lv_has ls 3 [] → f_PM_under_47  v_cabmen v_seen v_layer v_cabman v_page v_seenCabman v_seenFinger v_seenOff v_seenCame w0 v_thrown v_underMany v_underLeast v_shows = some res → W p l e (rm_ 3 (40 * 3)) s m args below meth c H locs 0 0 Q (F0 m 47 ls [.int w0]) := by
    intro  w0 v_thrown v_underMany v_underLeast v_shows H locs ls hP hD hS hl hf
    unfold f_PM_under_47 at hf
    have hr := Option.some.inj hf
    exact RET _ _ _ _ _ _ rfl (congrArg (fun r : Int32 × Int32 × Int32 × Int32 × (Nat → Int32) => r.1) hr) (congrArg (fun r : Int32 × Int32 × Int32 × Int32 × (Nat → Int32) => (cs_PM_under cI cZ a_p0 a_layer a_cabman a_page a_seenCabman a_seenFinger a_seenOff a_seenCame a_shows z_text z_readLayer z_readCabman z_trial z_book z_kept z_isKept z_value r.2.1 v_textSize v_place v_cabmen v_readCabmen v_acts v_seen v_seed v_bestCleaning v_bestLayers v_bestMany r.2.2.1 r.2.2.2.1 v_restMany v_restFirst v_layer v_cabman v_page v_seenCabman v_seenFinger v_seenOff v_seenCame r.2.2.2.2)) hr) hP hD hS d_PM_under_47
  unfold f_PM_under at hf
  have E : ∀ (H : Heap) (locs : List Loc), va_P D classes (cs_PM_under cI cZ a_p0 a_layer a_cabman a_page a_seenCabman a_seenFinger a_seenOff a_seenCame a_shows z_text z_readLayer z_readCabman z_trial z_book z_kept z_isKept z_value v_thrown v_textSize v_place v_cabmen v_readCabmen v_acts v_seen v_seed v_bestCleaning v_bestLayers v_bestMany v_underMany v_underLeast v_restMany v_restFirst v_layer v_cabman v_page v_seenCabman v_seenFinger v_seenOff v_seenCame v_shows) H → va_S A s.heap H locs → W p l e (rm_ 3 (40 * 3)) s m args below meth c H locs 0 0 Q (F0 m 0 ls []) := by
    intro H locs hP hS
    refine lv_aload_n hx hb d_PM_under_0 rfl (lv_at hl 0 rfl) ?_
    refine lv_iconst (v := 0) hx hb d_PM_under_1 (by decide) ?_
    refine pf_PM_59 hC hP hD hS 0 rfl (Nat.le_of_ble_eq_true rfl) d_PM_under_2 (fun H locs hP hD hS => ?_)
    have hP : va_P D classes (cs_PM_under cI cZ a_p0 a_layer a_cabman a_page a_seenCabman a_seenFinger a_seenOff a_seenCame a_shows z_text z_readLayer z_readCabman z_trial z_book z_kept z_isKept z_value 0 v_textSize v_place v_cabmen v_readCabmen v_acts v_seen v_seed v_bestCleaning v_bestLayers v_bestMany v_underMany v_underLeast v_restMany v_restFirst v_layer v_cabman v_page v_seenCabman v_seenFinger v_seenOff v_seenCame v_shows) H := hP
    have hD : va_D A (cs_PM_under cI cZ a_p0 a_layer a_cabman a_page a_seenCabman a_seenFinger a_seenOff a_seenCame a_shows z_text z_readLayer z_readCabman z_trial z_book z_kept z_isKept z_value 0 v_textSize v_place v_cabmen v_readCabmen v_acts v_seen v_seed v_bestCleaning v_bestLayers v_bestMany v_underMany v_underLeast v_restMany v_restFirst v_layer v_cabman v_page v_seenCabman v_seenFinger v_seenOff v_seenCame v_shows) := hD
    refine lv_iload_n hx hb d_PM_under_5 rfl (lv_at hl 1 rfl) ?_
    obtain ⟨r1, h2, hf⟩ := o_bind hf
    refine cSi0 (rest := []) (c_PM_noFinger l D cI cZ i1 r1 h2) hC hA hP hD hS hl.1 cw_PM_127 ⟨Nat.le_of_ble_eq_true rfl, Nat.le_of_ble_eq_true rfl⟩ rfl rfl (Nat.le_of_ble_eq_true rfl) d_PM_under_6 ⟨Nat.zero_le _, Nat.zero_le _⟩ (fun H locs hP hS => ?_)
    refine lv_if_eq (tgt := 14) hx hb d_PM_under_9 (by decide) (fun c3 => ?_) (fun c3 => ?_)
    · have hf := o_pos c3 hf
      refine lv_iload_n hx hb d_PM_under_14 rfl (lv_at hl 2 rfl) ?_
      refine lv_i2l (v := Int32.toInt64 i2) hx hb d_PM_under_15 rfl ?_
      refine lv_lconst (v := 0) hx hb d_PM_under_16 (by decide) ?_
      refine lv_lconst (v := 1) hx hb d_PM_under_17 (by decide) ?_
      obtain ⟨r4, h5, hf⟩ := o_bind hf
      refine cSi0 (rest := []) (c_PM_in l D cI cZ (Int32.toInt64 i2) 0 1 r4 h5) hC hA hP hD hS hl.1 cw_PM_66 ⟨Nat.le_of_ble_eq_true rfl, Nat.le_of_ble_eq_true rfl⟩ rfl rfl (Nat.le_of_ble_eq_true rfl) d_PM_under_18 ⟨Nat.zero_le _, Nat.zero_le _⟩ (fun H locs hP hS => ?_)
      refine lv_if_ne (tgt := 27) hx hb d_PM_under_21 (by decide) (fun c6 => ?_) (fun c6 => ?_)
      · have hf := o_neg c6 hf
        refine lv_aload_n hx hb d_PM_under_27 rfl (lv_at hl 0 rfl) ?_
        refine lv_iload_n hx hb d_PM_under_28 rfl (lv_at hl 1 rfl) ?_
        obtain ⟨r7, h8, hf⟩ := o_bind hf
        refine cVv (rest := []) (wr := []) (wn := (cs_PM_under cI cZ a_p0 a_layer a_cabman a_page a_seenCabman a_seenFinger a_seenOff a_seenCame a_shows z_text z_readLayer z_readCabman z_trial z_book z_kept z_isKept z_value 0 v_textSize v_place v_cabmen v_readCabmen v_acts v_seen v_seed v_bestCleaning v_bestLayers v_bestMany r7.1 r7.2.1 v_restMany v_restFirst v_layer v_cabman v_page v_seenCabman v_seenFinger v_seenOff v_seenCame r7.2.2)) (c_PM_findUnder l D cI cZ a_p0 a_layer a_cabman a_page a_seenCabman a_seenFinger a_seenOff a_seenCame a_shows z_text z_readLayer z_readCabman z_trial z_book z_kept z_isKept z_value i1 0 v_textSize v_place v_cabmen v_readCabmen v_acts v_seen v_seed v_bestCleaning v_bestLayers v_bestMany v_underMany v_underLeast v_restMany v_restFirst v_layer v_cabman v_page v_seenCabman v_seenFinger v_seenOff v_seenCame v_shows r7 h8) hC hA hP hD hS hl.1 cw_PM_207 0 rfl rfl rfl ⟨Nat.le_of_ble_eq_true rfl, Nat.le_of_ble_eq_true rfl⟩ rfl rfl (Nat.le_of_ble_eq_true rfl) d_PM_under_29 ⟨Nat.zero_le _, Nat.zero_le _⟩ [0, 1, 2, 3, 4, 5, 6, 7, 8] [] [0, 1, 2, 3, 4, 5, 6, 7, 8] (by decide) (Cut_mk rfl rfl (by decide) (by decide) (by decide) rfl) (fun H locs hP hD hS => ?_)
        refine lv_iload_n hx hb d_PM_under_32 rfl (lv_at hl 2 rfl) ?_
        refine lv_if_ne (tgt := 43) hx hb d_PM_under_33 (by decide) (fun c9 => ?_) (fun c9 => ?_)
        · have hf := o_neg c9 hf
          refine lv_aload_n hx hb d_PM_under_43 rfl (lv_at hl 0 rfl) ?_
          refine gf_PM_204 hC hP 0 rfl rfl d_PM_under_44 ?_
          exact B_47 r7.2.1 0 r7.1 r7.2.1 r7.2.2 _ _ _ hP hD hS (lv_sub hl [] rfl) hf
        · have hf := o_pos c9 hf
          refine lv_aload_n hx hb d_PM_under_36 rfl (lv_at hl 0 rfl) ?_
          refine gf_PM_201 hC hP 0 rfl rfl d_PM_under_37 ?_
          refine lv_goto (tgt := 47) hx hb d_PM_under_40 (by decide) ?_
          exact B_47 r7.1 0 r7.1 r7.2.1 r7.2.2 _ _ _ hP hD hS (lv_sub hl [] rfl) hf
      · have hf := o_pos c6 hf
        refine lv_bipush (v := (-2)) hx hb d_PM_under_24 (by decide) ?_
        have hr := Option.some.inj hf
        exact RET _ _ _ _ _ _ rfl (congrArg (fun r : Int32 × Int32 × Int32 × Int32 × (Nat → Int32) => r.1) hr) (congrArg (fun r : Int32 × Int32 × Int32 × Int32 × (Nat → Int32) => (cs_PM_under cI cZ a_p0 a_layer a_cabman a_page a_seenCabman a_seenFinger a_seenOff a_seenCame a_shows z_text z_readLayer z_readCabman z_trial z_book z_kept z_isKept z_value r.2.1 v_textSize v_place v_cabmen v_readCabmen v_acts v_seen v_seed v_bestCleaning v_bestLayers v_bestMany r.2.2.1 r.2.2.2.1 v_restMany v_restFirst v_layer v_cabman v_page v_seenCabman v_seenFinger v_seenOff v_seenCame r.2.2.2.2)) hr) hP hD hS d_PM_under_26
    · have hf := o_neg c3 hf
      refine lv_iconst (v := (-1)) hx hb d_PM_under_12 (by decide) ?_
      have hr := Option.some.inj hf
      exact RET _ _ _ _ _ _ rfl (congrArg (fun r : Int32 × Int32 × Int32 × Int32 × (Nat → Int32) => r.1) hr) (congrArg (fun r : Int32 × Int32 × Int32 × Int32 × (Nat → Int32) => (cs_PM_under cI cZ a_p0 a_layer a_cabman a_page a_seenCabman a_seenFinger a_seenOff a_seenCame a_shows z_text z_readLayer z_readCabman z_trial z_book z_kept z_isKept z_value r.2.1 v_textSize v_place v_cabmen v_readCabmen v_acts v_seen v_seed v_bestCleaning v_bestLayers v_bestMany r.2.2.1 r.2.2.2.1 v_restMany v_restFirst v_layer v_cabman v_page v_seenCabman v_seenFinger v_seenOff v_seenCame r.2.2.2.2)) hr) hP hD hS d_PM_under_13
  exact E _ _ hP hS
set_option maxHeartbeats 4000000 in
set_option maxRecDepth 100000 in
theorem c_PM_gainOf (l : Launch) (D : va_G) (cI cZ : ClassId) (a_p0 a_cabman z_text z_layer z_readLayer z_readCabman z_page z_trial z_book z_kept z_isKept z_seenCabman z_seenFinger z_seenOff z_seenCame z_value z_shows : Nat) (i1 : Int32) (i2 : Int32) (i3 : Int32) (v_thrown : Int32) (v_textSize : Int32) (v_place : Int32) (v_cabmen : Int32) (v_readCabmen : Int32) (v_acts : Int32) (v_seen : Int32) (v_seed : Int64) (v_bestCleaning : Int32) (v_bestLayers : Int32) (v_bestMany : Int32) (v_underMany : Int32) (v_underLeast : Int32) (v_restMany : Int32) (v_restFirst : Int32) (v_cabman : Nat → Int32) (res : Int32) (hf : f_PM_gainOf i1 i2 i3 v_cabman = some res) : CtI l y_PM_gainOf b_PM_gainOf 4 (some .int) 0 D cI cZ [.ref a_p0, .int i1, .int i2, .int i3] (cs_PM_gainOf cI cZ a_p0 a_cabman z_text z_layer z_readLayer z_readCabman z_page z_trial z_book z_kept z_isKept z_seenCabman z_seenFinger z_seenOff z_seenCame z_value z_shows v_thrown v_textSize v_place v_cabmen v_readCabmen v_acts v_seen v_seed v_bestCleaning v_bestLayers v_bestMany v_underMany v_underLeast v_restMany v_restFirst v_cabman) res (cs_PM_gainOf cI cZ a_p0 a_cabman z_text z_layer z_readLayer z_readCabman z_page z_trial z_book z_kept z_isKept z_seenCabman z_seenFinger z_seenOff z_seenCame z_value z_shows v_thrown v_textSize v_place v_cabmen v_readCabmen v_acts v_seen v_seed v_bestCleaning v_bestLayers v_bestMany v_underMany v_underLeast v_restMany v_restFirst v_cabman) := by
  refine CtI_mk (by decide) (Nat.le_of_ble_eq_true rfl) ?_
  intro p e s m args below meth c A Q hC hA hP hD RET ls hl
  have hC : Cx p s m args meth c b_PM_gainOf 4 R_PM D cI cZ := hC
  have hl : lv_has ls 4 [(0, .ref a_p0), (1, .int i1), (2, .int i2), (3, .int i3)] := hl
  obtain ⟨hx, hb, hml, hown, hts, hlk, hKK⟩ := id hC
  have hS : va_S A s.heap s.heap [] := va_S.rf
  have B_27 : ∀  (x2 : Int32) (w0 : Int32) (H : Heap) (locs : List Loc) (ls : Array Slot), va_P D classes (cs_PM_gainOf cI cZ a_p0 a_cabman z_text z_layer z_readLayer z_readCabman z_page z_trial z_book z_kept z_isKept z_seenCabman z_seenFinger z_seenOff z_seenCame z_value z_shows v_thrown v_textSize v_place v_cabmen v_readCabmen v_acts v_seen v_seed v_bestCleaning v_bestLayers v_bestMany v_underMany v_underLeast v_restMany v_restFirst v_cabman) H → va_D A (cs_PM_gainOf cI cZ a_p0 a_cabman z_text z_layer z_readLayer z_readCabman z_page z_trial z_book z_kept z_isKept z_seenCabman z_seenFinger z_seenOff z_seenCame z_value z_shows v_thrown v_textSize v_place v_cabmen v_readCabmen v_acts v_seen v_seed v_bestCleaning v_bestLayers v_bestMany v_underMany v_underLeast v_restMany v_restFirst v_cabman) → va_S A s.heap H locs → lv_has ls 4 [(2, .int x2)] → f_PM_gainOf_27  v_cabman x2 w0 = some res → W p l e (rm_ 0 (40 * 0)) s m args below meth c H locs 0 0 Q (F0 m 27 ls [.int w0]) := by
    intro  x2 w0 H locs ls hP hD hS hl hf
    unfold f_PM_gainOf_27 at hf
    refine lv_iload_n hx hb d_PM_gainOf_27 rfl (lv_at hl 0 rfl) ?_
    refine lv_isub hx hb d_PM_gainOf_28 ?_
    have hr := Option.some.inj hf
    exact RET _ _ _ _ _ _ rfl (congrArg (fun r : Int32 => r) hr) rfl hP hD hS d_PM_gainOf_29
  unfold f_PM_gainOf at hf
  have E : ∀ (H : Heap) (locs : List Loc), va_P D classes (cs_PM_gainOf cI cZ a_p0 a_cabman z_text z_layer z_readLayer z_readCabman z_page z_trial z_book z_kept z_isKept z_seenCabman z_seenFinger z_seenOff z_seenCame z_value z_shows v_thrown v_textSize v_place v_cabmen v_readCabmen v_acts v_seen v_seed v_bestCleaning v_bestLayers v_bestMany v_underMany v_underLeast v_restMany v_restFirst v_cabman) H → va_S A s.heap H locs → W p l e (rm_ 0 (40 * 0)) s m args below meth c H locs 0 0 Q (F0 m 0 ls []) := by
    intro H locs hP hS
    refine lv_iload_n hx hb d_PM_gainOf_0 rfl (lv_at hl 2 rfl) ?_
    refine lv_iload_n hx hb d_PM_gainOf_1 rfl (lv_at hl 3 rfl) ?_
    refine lv_icmp_le (tgt := 26) hx hb d_PM_gainOf_2 (by decide) (fun c1 => ?_) (fun c1 => ?_)
    · have hf := o_pos c1 hf
      refine lv_iconst (v := 0) hx hb d_PM_gainOf_26 (by decide) ?_
      exact B_27 i2 0 _ _ _ hP hD hS (lv_sub hl [2] rfl) hf
    · have hf := o_neg c1 hf
      refine lv_aload_n hx hb d_PM_gainOf_5 rfl (lv_at hl 0 rfl) ?_
      refine gf_PM_16 hC hP 0 rfl rfl d_PM_gainOf_6 ?_
      refine lv_bipush (v := 6) hx hb d_PM_gainOf_9 (by decide) ?_
      refine lv_iload_n hx hb d_PM_gainOf_11 rfl (lv_at hl 1 rfl) ?_
      refine lv_imul hx hb d_PM_gainOf_12 ?_
      obtain ⟨v2, h3, hf⟩ := o_bind hf
      refine r_iald hC hP 1 rfl h3 d_PM_gainOf_13 ?_
      refine lv_iconst (v := 2) hx hb d_PM_gainOf_14 (by decide) ?_
      refine lv_icmp_ne (tgt := 22) hx hb d_PM_gainOf_15 (by decide) (fun c4 => ?_) (fun c4 => ?_)
      · have hf := o_neg c4 hf
        refine lv_iconst (v := 4) hx hb d_PM_gainOf_22 (by decide) ?_
        refine lv_goto (tgt := 27) hx hb d_PM_gainOf_23 (by decide) ?_
        exact B_27 i2 4 _ _ _ hP hD hS (lv_sub hl [2] rfl) hf
      · have hf := o_pos c4 hf
        refine lv_iconst (v := 5) hx hb d_PM_gainOf_18 (by decide) ?_
        refine lv_goto (tgt := 27) hx hb d_PM_gainOf_19 (by decide) ?_
        exact B_27 i2 5 _ _ _ hP hD hS (lv_sub hl [2] rfl) hf
  exact E _ _ hP hS
set_option maxHeartbeats 4000000 in
set_option maxRecDepth 100000 in
theorem c_PM_findRests (l : Launch) (D : va_G) (cI cZ : ClassId) (a_p0 a_cabman z_text z_layer z_readLayer z_readCabman z_page z_trial z_book z_kept z_isKept z_seenCabman z_seenFinger z_seenOff z_seenCame z_value z_shows : Nat) (i1 : Int32) (i2 : Int32) (v_thrown : Int32) (v_textSize : Int32) (v_place : Int32) (v_cabmen : Int32) (v_readCabmen : Int32) (v_acts : Int32) (v_seen : Int32) (v_seed : Int64) (v_bestCleaning : Int32) (v_bestLayers : Int32) (v_bestMany : Int32) (v_underMany : Int32) (v_underLeast : Int32) (v_restMany : Int32) (v_restFirst : Int32) (v_cabman : Nat → Int32) (res : Int32 × Int32) (hf : f_PM_findRests i1 i2 v_cabman v_restMany v_restFirst = some res) : CtV l y_PM_findRests b_PM_findRests 7 none 1 D cI cZ [.ref a_p0, .int i1, .int i2] (cs_PM_findRests cI cZ a_p0 a_cabman z_text z_layer z_readLayer z_readCabman z_page z_trial z_book z_kept z_isKept z_seenCabman z_seenFinger z_seenOff z_seenCame z_value z_shows v_thrown v_textSize v_place v_cabmen v_readCabmen v_acts v_seen v_seed v_bestCleaning v_bestLayers v_bestMany v_underMany v_underLeast v_restMany v_restFirst v_cabman) (cs_PM_findRests cI cZ a_p0 a_cabman z_text z_layer z_readLayer z_readCabman z_page z_trial z_book z_kept z_isKept z_seenCabman z_seenFinger z_seenOff z_seenCame z_value z_shows v_thrown v_textSize v_place v_cabmen v_readCabmen v_acts v_seen v_seed v_bestCleaning v_bestLayers v_bestMany v_underMany v_underLeast res.1 res.2 v_cabman) := by
  refine CtV_mk (by decide) (Nat.le_of_ble_eq_true rfl) ?_
  intro p e s m args below meth c A Q hC hA hP hD RET ls hl
  have hC : Cx p s m args meth c b_PM_findRests 7 R_PM D cI cZ := hC
  have hl : lv_has ls 7 [(0, .ref a_p0), (1, .int i1), (2, .int i2)] := hl
  obtain ⟨hx, hb, hml, hown, hts, hlk, hKK⟩ := id hC
  have hS : va_S A s.heap s.heap [] := va_S.rf
  have B_141 : ∀ (back_13 : Int32 → Int32 → Int32 → Int32 → Int32 → Option (Int32 × Int32)) (K_13 : ∀ (x1 : Int32) (x2 : Int32) (x3 : Int32) (v_restMany : Int32) (v_restFirst : Int32) (H : Heap) (locs : List Loc) (ls : Array Slot), va_P D classes (cs_PM_findRests cI cZ a_p0 a_cabman z_text z_layer z_readLayer z_readCabman z_page z_trial z_book z_kept z_isKept z_seenCabman z_seenFinger z_seenOff z_seenCame z_value z_shows v_thrown v_textSize v_place v_cabmen v_readCabmen v_acts v_seen v_seed v_bestCleaning v_bestLayers v_bestMany v_underMany v_underLeast v_restMany v_restFirst v_cabman) H → va_D A (cs_PM_findRests cI cZ a_p0 a_cabman z_text z_layer z_readLayer z_readCabman z_page z_trial z_book z_kept z_isKept z_seenCabman z_seenFinger z_seenOff z_seenCame z_value z_shows v_thrown v_textSize v_place v_cabmen v_readCabmen v_acts v_seen v_seed v_bestCleaning v_bestLayers v_bestMany v_underMany v_underLeast v_restMany v_restFirst v_cabman) → va_S A s.heap H locs → lv_has ls 7 [(0, .ref a_p0), (1, .int x1), (2, .int x2), (3, .int x3)] → back_13 x1 x2 x3 v_restMany v_restFirst = some res → W p l e (rm_ 1 (40 * 1)) s m args below meth c H locs 0 0 Q (F0 m 13 ls [])) (back_21 : Int32 → Int32 → Int32 → Int32 → Int32 → Int32 → Option (Int32 × Int32)) (K_21 : ∀ (x1 : Int32) (x2 : Int32) (x3 : Int32) (x4 : Int32) (v_restMany : Int32) (v_restFirst : Int32) (H : Heap) (locs : List Loc) (ls : Array Slot), va_P D classes (cs_PM_findRests cI cZ a_p0 a_cabman z_text z_layer z_readLayer z_readCabman z_page z_trial z_book z_kept z_isKept z_seenCabman z_seenFinger z_seenOff z_seenCame z_value z_shows v_thrown v_textSize v_place v_cabmen v_readCabmen v_acts v_seen v_seed v_bestCleaning v_bestLayers v_bestMany v_underMany v_underLeast v_restMany v_restFirst v_cabman) H → va_D A (cs_PM_findRests cI cZ a_p0 a_cabman z_text z_layer z_readLayer z_readCabman z_page z_trial z_book z_kept z_isKept z_seenCabman z_seenFinger z_seenOff z_seenCame z_value z_shows v_thrown v_textSize v_place v_cabmen v_readCabmen v_acts v_seen v_seed v_bestCleaning v_bestLayers v_bestMany v_underMany v_underLeast v_restMany v_restFirst v_cabman) → va_S A s.heap H locs → lv_has ls 7 [(0, .ref a_p0), (1, .int x1), (2, .int x2), (3, .int x3), (4, .int x4)] → back_21 x1 x2 x3 x4 v_restMany v_restFirst = some res → W p l e (rm_ 1 (40 * 1)) s m args below meth c H locs 0 0 Q (F0 m 21 ls [])) (x1 : Int32) (x2 : Int32) (x3 : Int32) (x4 : Int32) (w1 : Int32) (w2 : Int32) (v_restMany : Int32) (v_restFirst : Int32) (H : Heap) (locs : List Loc) (ls : Array Slot), va_P D classes (cs_PM_findRests cI cZ a_p0 a_cabman z_text z_layer z_readLayer z_readCabman z_page z_trial z_book z_kept z_isKept z_seenCabman z_seenFinger z_seenOff z_seenCame z_value z_shows v_thrown v_textSize v_place v_cabmen v_readCabmen v_acts v_seen v_seed v_bestCleaning v_bestLayers v_bestMany v_underMany v_underLeast v_restMany v_restFirst v_cabman) H → va_D A (cs_PM_findRests cI cZ a_p0 a_cabman z_text z_layer z_readLayer z_readCabman z_page z_trial z_book z_kept z_isKept z_seenCabman z_seenFinger z_seenOff z_seenCame z_value z_shows v_thrown v_textSize v_place v_cabmen v_readCabmen v_acts v_seen v_seed v_bestCleaning v_bestLayers v_bestMany v_underMany v_underLeast v_restMany v_restFirst v_cabman) → va_S A s.heap H locs → lv_has ls 7 [(0, .ref a_p0), (1, .int x1), (2, .int x2), (3, .int x3), (4, .int x4)] → f_PM_findRests_141 back_13 back_21 v_cabman x1 x2 x3 x4 w1 w2 v_restMany v_restFirst = some res → W p l e (rm_ 1 (40 * 1)) s m args below meth c H locs 0 0 Q (F0 m 141 ls [.int w2, .int w1, .ref a_p0]) := by
    intro back_13 K_13 back_21 K_21 x1 x2 x3 x4 w1 w2 v_restMany v_restFirst H locs ls hP hD hS hl hf
    unfold f_PM_findRests_141 at hf
    refine lv_iadd hx hb d_PM_findRests_141 ?_
    refine pf_PM_210 hC hP hD hS 0 rfl (Nat.le_of_ble_eq_true rfl) d_PM_findRests_142 (fun H locs hP hD hS => ?_)
    have hP : va_P D classes (cs_PM_findRests cI cZ a_p0 a_cabman z_text z_layer z_readLayer z_readCabman z_page z_trial z_book z_kept z_isKept z_seenCabman z_seenFinger z_seenOff z_seenCame z_value z_shows v_thrown v_textSize v_place v_cabmen v_readCabmen v_acts v_seen v_seed v_bestCleaning v_bestLayers v_bestMany v_underMany v_underLeast (w1 + w2) v_restFirst v_cabman) H := hP
    have hD : va_D A (cs_PM_findRests cI cZ a_p0 a_cabman z_text z_layer z_readLayer z_readCabman z_page z_trial z_book z_kept z_isKept z_seenCabman z_seenFinger z_seenOff z_seenCame z_value z_shows v_thrown v_textSize v_place v_cabmen v_readCabmen v_acts v_seen v_seed v_bestCleaning v_bestLayers v_bestMany v_underMany v_underLeast (w1 + w2) v_restFirst v_cabman) := hD
    refine lv_iinc (v := x4 + 1) (lv' := [(4, .int (x4 + 1)), (0, .ref a_p0), (1, .int x1), (2, .int x2), (3, .int x3)]) hx hb d_PM_findRests_145 hl (k := 4) rfl (rfl) (by decide) rfl (fun ls hl => ?_)
    refine lv_goto (tgt := 21) hx hb d_PM_findRests_148 (by decide) ?_
    exact K_21 x1 x2 x3 (x4 + 1) (w1 + w2) v_restFirst _ _ _ hP hD hS (lv_sub hl [1, 2, 3, 4, 0] rfl) hf
  have B_123 : ∀ (back_13 : Int32 → Int32 → Int32 → Int32 → Int32 → Option (Int32 × Int32)) (K_13 : ∀ (x1 : Int32) (x2 : Int32) (x3 : Int32) (v_restMany : Int32) (v_restFirst : Int32) (H : Heap) (locs : List Loc) (ls : Array Slot), va_P D classes (cs_PM_findRests cI cZ a_p0 a_cabman z_text z_layer z_readLayer z_readCabman z_page z_trial z_book z_kept z_isKept z_seenCabman z_seenFinger z_seenOff z_seenCame z_value z_shows v_thrown v_textSize v_place v_cabmen v_readCabmen v_acts v_seen v_seed v_bestCleaning v_bestLayers v_bestMany v_underMany v_underLeast v_restMany v_restFirst v_cabman) H → va_D A (cs_PM_findRests cI cZ a_p0 a_cabman z_text z_layer z_readLayer z_readCabman z_page z_trial z_book z_kept z_isKept z_seenCabman z_seenFinger z_seenOff z_seenCame z_value z_shows v_thrown v_textSize v_place v_cabmen v_readCabmen v_acts v_seen v_seed v_bestCleaning v_bestLayers v_bestMany v_underMany v_underLeast v_restMany v_restFirst v_cabman) → va_S A s.heap H locs → lv_has ls 7 [(0, .ref a_p0), (1, .int x1), (2, .int x2), (3, .int x3)] → back_13 x1 x2 x3 v_restMany v_restFirst = some res → W p l e (rm_ 1 (40 * 1)) s m args below meth c H locs 0 0 Q (F0 m 13 ls [])) (back_21 : Int32 → Int32 → Int32 → Int32 → Int32 → Int32 → Option (Int32 × Int32)) (K_21 : ∀ (x1 : Int32) (x2 : Int32) (x3 : Int32) (x4 : Int32) (v_restMany : Int32) (v_restFirst : Int32) (H : Heap) (locs : List Loc) (ls : Array Slot), va_P D classes (cs_PM_findRests cI cZ a_p0 a_cabman z_text z_layer z_readLayer z_readCabman z_page z_trial z_book z_kept z_isKept z_seenCabman z_seenFinger z_seenOff z_seenCame z_value z_shows v_thrown v_textSize v_place v_cabmen v_readCabmen v_acts v_seen v_seed v_bestCleaning v_bestLayers v_bestMany v_underMany v_underLeast v_restMany v_restFirst v_cabman) H → va_D A (cs_PM_findRests cI cZ a_p0 a_cabman z_text z_layer z_readLayer z_readCabman z_page z_trial z_book z_kept z_isKept z_seenCabman z_seenFinger z_seenOff z_seenCame z_value z_shows v_thrown v_textSize v_place v_cabmen v_readCabmen v_acts v_seen v_seed v_bestCleaning v_bestLayers v_bestMany v_underMany v_underLeast v_restMany v_restFirst v_cabman) → va_S A s.heap H locs → lv_has ls 7 [(0, .ref a_p0), (1, .int x1), (2, .int x2), (3, .int x3), (4, .int x4)] → back_21 x1 x2 x3 x4 v_restMany v_restFirst = some res → W p l e (rm_ 1 (40 * 1)) s m args below meth c H locs 0 0 Q (F0 m 21 ls [])) (x1 : Int32) (x2 : Int32) (x3 : Int32) (x4 : Int32) (x5 : Int32) (w1 : Int32) (v_restMany : Int32) (v_restFirst : Int32) (H : Heap) (locs : List Loc) (ls : Array Slot), va_P D classes (cs_PM_findRests cI cZ a_p0 a_cabman z_text z_layer z_readLayer z_readCabman z_page z_trial z_book z_kept z_isKept z_seenCabman z_seenFinger z_seenOff z_seenCame z_value z_shows v_thrown v_textSize v_place v_cabmen v_readCabmen v_acts v_seen v_seed v_bestCleaning v_bestLayers v_bestMany v_underMany v_underLeast v_restMany v_restFirst v_cabman) H → va_D A (cs_PM_findRests cI cZ a_p0 a_cabman z_text z_layer z_readLayer z_readCabman z_page z_trial z_book z_kept z_isKept z_seenCabman z_seenFinger z_seenOff z_seenCame z_value z_shows v_thrown v_textSize v_place v_cabmen v_readCabmen v_acts v_seen v_seed v_bestCleaning v_bestLayers v_bestMany v_underMany v_underLeast v_restMany v_restFirst v_cabman) → va_S A s.heap H locs → lv_has ls 7 [(0, .ref a_p0), (1, .int x1), (2, .int x2), (3, .int x3), (4, .int x4), (5, .int x5)] → f_PM_findRests_123 back_13 back_21 v_cabman x1 x2 x3 x4 x5 w1 v_restMany v_restFirst = some res → W p l e (rm_ 1 (40 * 1)) s m args below meth c H locs 0 0 Q (F0 m 123 ls [.int w1, .ref a_p0]) := by
    intro back_13 K_13 back_21 K_21 x1 x2 x3 x4 x5 w1 v_restMany v_restFirst H locs ls hP hD hS hl hf
    unfold f_PM_findRests_123 at hf
    refine pf_PM_213 hC hP hD hS 0 rfl (Nat.le_of_ble_eq_true rfl) d_PM_findRests_123 (fun H locs hP hD hS => ?_)
    have hP : va_P D classes (cs_PM_findRests cI cZ a_p0 a_cabman z_text z_layer z_readLayer z_readCabman z_page z_trial z_book z_kept z_isKept z_seenCabman z_seenFinger z_seenOff z_seenCame z_value z_shows v_thrown v_textSize v_place v_cabmen v_readCabmen v_acts v_seen v_seed v_bestCleaning v_bestLayers v_bestMany v_underMany v_underLeast v_restMany w1 v_cabman) H := hP
    have hD : va_D A (cs_PM_findRests cI cZ a_p0 a_cabman z_text z_layer z_readLayer z_readCabman z_page z_trial z_book z_kept z_isKept z_seenCabman z_seenFinger z_seenOff z_seenCame z_value z_shows v_thrown v_textSize v_place v_cabmen v_readCabmen v_acts v_seen v_seed v_bestCleaning v_bestLayers v_bestMany v_underMany v_underLeast v_restMany w1 v_cabman) := hD
    refine lv_aload_n hx hb d_PM_findRests_126 rfl (lv_at hl 0 rfl) ?_
    refine lv_dup hx hb d_PM_findRests_127 rfl ?_
    refine gf_PM_210 hC hP 0 rfl rfl d_PM_findRests_128 ?_
    refine lv_iload hx hb d_PM_findRests_131 (lv_at hl 5 rfl) ?_
    refine lv_if_eq (tgt := 140) hx hb d_PM_findRests_133 (by decide) (fun c1 => ?_) (fun c1 => ?_)
    · have hf := o_pos c1 hf
      refine lv_iconst (v := 0) hx hb d_PM_findRests_140 (by decide) ?_
      exact B_141 back_13 K_13 back_21 K_21 x1 x2 x3 x4 v_restMany 0 v_restMany w1 _ _ _ hP hD hS (lv_sub hl [0, 1, 2, 3, 4] rfl) hf
    · have hf := o_neg c1 hf
      refine lv_iconst (v := 1) hx hb d_PM_findRests_136 (by decide) ?_
      refine lv_goto (tgt := 141) hx hb d_PM_findRests_137 (by decide) ?_
      exact B_141 back_13 K_13 back_21 K_21 x1 x2 x3 x4 v_restMany 1 v_restMany w1 _ _ _ hP hD hS (lv_sub hl [0, 1, 2, 3, 4] rfl) hf
  have B_119 : ∀ (back_13 : Int32 → Int32 → Int32 → Int32 → Int32 → Option (Int32 × Int32)) (K_13 : ∀ (x1 : Int32) (x2 : Int32) (x3 : Int32) (v_restMany : Int32) (v_restFirst : Int32) (H : Heap) (locs : List Loc) (ls : Array Slot), va_P D classes (cs_PM_findRests cI cZ a_p0 a_cabman z_text z_layer z_readLayer z_readCabman z_page z_trial z_book z_kept z_isKept z_seenCabman z_seenFinger z_seenOff z_seenCame z_value z_shows v_thrown v_textSize v_place v_cabmen v_readCabmen v_acts v_seen v_seed v_bestCleaning v_bestLayers v_bestMany v_underMany v_underLeast v_restMany v_restFirst v_cabman) H → va_D A (cs_PM_findRests cI cZ a_p0 a_cabman z_text z_layer z_readLayer z_readCabman z_page z_trial z_book z_kept z_isKept z_seenCabman z_seenFinger z_seenOff z_seenCame z_value z_shows v_thrown v_textSize v_place v_cabmen v_readCabmen v_acts v_seen v_seed v_bestCleaning v_bestLayers v_bestMany v_underMany v_underLeast v_restMany v_restFirst v_cabman) → va_S A s.heap H locs → lv_has ls 7 [(0, .ref a_p0), (1, .int x1), (2, .int x2), (3, .int x3)] → back_13 x1 x2 x3 v_restMany v_restFirst = some res → W p l e (rm_ 1 (40 * 1)) s m args below meth c H locs 0 0 Q (F0 m 13 ls [])) (back_21 : Int32 → Int32 → Int32 → Int32 → Int32 → Int32 → Option (Int32 × Int32)) (K_21 : ∀ (x1 : Int32) (x2 : Int32) (x3 : Int32) (x4 : Int32) (v_restMany : Int32) (v_restFirst : Int32) (H : Heap) (locs : List Loc) (ls : Array Slot), va_P D classes (cs_PM_findRests cI cZ a_p0 a_cabman z_text z_layer z_readLayer z_readCabman z_page z_trial z_book z_kept z_isKept z_seenCabman z_seenFinger z_seenOff z_seenCame z_value z_shows v_thrown v_textSize v_place v_cabmen v_readCabmen v_acts v_seen v_seed v_bestCleaning v_bestLayers v_bestMany v_underMany v_underLeast v_restMany v_restFirst v_cabman) H → va_D A (cs_PM_findRests cI cZ a_p0 a_cabman z_text z_layer z_readLayer z_readCabman z_page z_trial z_book z_kept z_isKept z_seenCabman z_seenFinger z_seenOff z_seenCame z_value z_shows v_thrown v_textSize v_place v_cabmen v_readCabmen v_acts v_seen v_seed v_bestCleaning v_bestLayers v_bestMany v_underMany v_underLeast v_restMany v_restFirst v_cabman) → va_S A s.heap H locs → lv_has ls 7 [(0, .ref a_p0), (1, .int x1), (2, .int x2), (3, .int x3), (4, .int x4)] → back_21 x1 x2 x3 x4 v_restMany v_restFirst = some res → W p l e (rm_ 1 (40 * 1)) s m args below meth c H locs 0 0 Q (F0 m 21 ls [])) (x1 : Int32) (x2 : Int32) (x3 : Int32) (x4 : Int32) (x5 : Int32) (v_restMany : Int32) (v_restFirst : Int32) (H : Heap) (locs : List Loc) (ls : Array Slot), va_P D classes (cs_PM_findRests cI cZ a_p0 a_cabman z_text z_layer z_readLayer z_readCabman z_page z_trial z_book z_kept z_isKept z_seenCabman z_seenFinger z_seenOff z_seenCame z_value z_shows v_thrown v_textSize v_place v_cabmen v_readCabmen v_acts v_seen v_seed v_bestCleaning v_bestLayers v_bestMany v_underMany v_underLeast v_restMany v_restFirst v_cabman) H → va_D A (cs_PM_findRests cI cZ a_p0 a_cabman z_text z_layer z_readLayer z_readCabman z_page z_trial z_book z_kept z_isKept z_seenCabman z_seenFinger z_seenOff z_seenCame z_value z_shows v_thrown v_textSize v_place v_cabmen v_readCabmen v_acts v_seen v_seed v_bestCleaning v_bestLayers v_bestMany v_underMany v_underLeast v_restMany v_restFirst v_cabman) → va_S A s.heap H locs → lv_has ls 7 [(0, .ref a_p0), (1, .int x1), (2, .int x2), (3, .int x3), (4, .int x4), (5, .int x5)] → f_PM_findRests_119 back_13 back_21 v_cabman x1 x2 x3 x4 x5 v_restMany v_restFirst = some res → W p l e (rm_ 1 (40 * 1)) s m args below meth c H locs 0 0 Q (F0 m 119 ls [.ref a_p0]) := by
    intro back_13 K_13 back_21 K_21 x1 x2 x3 x4 x5 v_restMany v_restFirst H locs ls hP hD hS hl hf
    unfold f_PM_findRests_119 at hf
    refine lv_aload_n hx hb d_PM_findRests_119 rfl (lv_at hl 0 rfl) ?_
    refine gf_PM_213 hC hP 0 rfl rfl d_PM_findRests_120 ?_
    exact B_123 back_13 K_13 back_21 K_21 x1 x2 x3 x4 x5 v_restFirst v_restMany v_restFirst _ _ _ hP hD hS (lv_sub hl [0, 1, 2, 3, 4, 5] rfl) hf
  have B_88 : ∀ (back_13 : Int32 → Int32 → Int32 → Int32 → Int32 → Option (Int32 × Int32)) (K_13 : ∀ (x1 : Int32) (x2 : Int32) (x3 : Int32) (v_restMany : Int32) (v_restFirst : Int32) (H : Heap) (locs : List Loc) (ls : Array Slot), va_P D classes (cs_PM_findRests cI cZ a_p0 a_cabman z_text z_layer z_readLayer z_readCabman z_page z_trial z_book z_kept z_isKept z_seenCabman z_seenFinger z_seenOff z_seenCame z_value z_shows v_thrown v_textSize v_place v_cabmen v_readCabmen v_acts v_seen v_seed v_bestCleaning v_bestLayers v_bestMany v_underMany v_underLeast v_restMany v_restFirst v_cabman) H → va_D A (cs_PM_findRests cI cZ a_p0 a_cabman z_text z_layer z_readLayer z_readCabman z_page z_trial z_book z_kept z_isKept z_seenCabman z_seenFinger z_seenOff z_seenCame z_value z_shows v_thrown v_textSize v_place v_cabmen v_readCabmen v_acts v_seen v_seed v_bestCleaning v_bestLayers v_bestMany v_underMany v_underLeast v_restMany v_restFirst v_cabman) → va_S A s.heap H locs → lv_has ls 7 [(0, .ref a_p0), (1, .int x1), (2, .int x2), (3, .int x3)] → back_13 x1 x2 x3 v_restMany v_restFirst = some res → W p l e (rm_ 1 (40 * 1)) s m args below meth c H locs 0 0 Q (F0 m 13 ls [])) (back_21 : Int32 → Int32 → Int32 → Int32 → Int32 → Int32 → Option (Int32 × Int32)) (K_21 : ∀ (x1 : Int32) (x2 : Int32) (x3 : Int32) (x4 : Int32) (v_restMany : Int32) (v_restFirst : Int32) (H : Heap) (locs : List Loc) (ls : Array Slot), va_P D classes (cs_PM_findRests cI cZ a_p0 a_cabman z_text z_layer z_readLayer z_readCabman z_page z_trial z_book z_kept z_isKept z_seenCabman z_seenFinger z_seenOff z_seenCame z_value z_shows v_thrown v_textSize v_place v_cabmen v_readCabmen v_acts v_seen v_seed v_bestCleaning v_bestLayers v_bestMany v_underMany v_underLeast v_restMany v_restFirst v_cabman) H → va_D A (cs_PM_findRests cI cZ a_p0 a_cabman z_text z_layer z_readLayer z_readCabman z_page z_trial z_book z_kept z_isKept z_seenCabman z_seenFinger z_seenOff z_seenCame z_value z_shows v_thrown v_textSize v_place v_cabmen v_readCabmen v_acts v_seen v_seed v_bestCleaning v_bestLayers v_bestMany v_underMany v_underLeast v_restMany v_restFirst v_cabman) → va_S A s.heap H locs → lv_has ls 7 [(0, .ref a_p0), (1, .int x1), (2, .int x2), (3, .int x3), (4, .int x4)] → back_21 x1 x2 x3 x4 v_restMany v_restFirst = some res → W p l e (rm_ 1 (40 * 1)) s m args below meth c H locs 0 0 Q (F0 m 21 ls [])) (back_33 : Int32 → Int32 → Int32 → Int32 → Int32 → Int32 → Int32 → Int32 → Option (Int32 × Int32)) (K_33 : ∀ (x1 : Int32) (x2 : Int32) (x3 : Int32) (x4 : Int32) (x5 : Int32) (x6 : Int32) (v_restMany : Int32) (v_restFirst : Int32) (H : Heap) (locs : List Loc) (ls : Array Slot), va_P D classes (cs_PM_findRests cI cZ a_p0 a_cabman z_text z_layer z_readLayer z_readCabman z_page z_trial z_book z_kept z_isKept z_seenCabman z_seenFinger z_seenOff z_seenCame z_value z_shows v_thrown v_textSize v_place v_cabmen v_readCabmen v_acts v_seen v_seed v_bestCleaning v_bestLayers v_bestMany v_underMany v_underLeast v_restMany v_restFirst v_cabman) H → va_D A (cs_PM_findRests cI cZ a_p0 a_cabman z_text z_layer z_readLayer z_readCabman z_page z_trial z_book z_kept z_isKept z_seenCabman z_seenFinger z_seenOff z_seenCame z_value z_shows v_thrown v_textSize v_place v_cabmen v_readCabmen v_acts v_seen v_seed v_bestCleaning v_bestLayers v_bestMany v_underMany v_underLeast v_restMany v_restFirst v_cabman) → va_S A s.heap H locs → lv_has ls 7 [(0, .ref a_p0), (1, .int x1), (2, .int x2), (3, .int x3), (4, .int x4), (5, .int x5), (6, .int x6)] → back_33 x1 x2 x3 x4 x5 x6 v_restMany v_restFirst = some res → W p l e (rm_ 1 (40 * 1)) s m args below meth c H locs 0 0 Q (F0 m 33 ls [])) (x1 : Int32) (x2 : Int32) (x3 : Int32) (x4 : Int32) (x6 : Int32) (w0 : Int32) (v_restMany : Int32) (v_restFirst : Int32) (H : Heap) (locs : List Loc) (ls : Array Slot), va_P D classes (cs_PM_findRests cI cZ a_p0 a_cabman z_text z_layer z_readLayer z_readCabman z_page z_trial z_book z_kept z_isKept z_seenCabman z_seenFinger z_seenOff z_seenCame z_value z_shows v_thrown v_textSize v_place v_cabmen v_readCabmen v_acts v_seen v_seed v_bestCleaning v_bestLayers v_bestMany v_underMany v_underLeast v_restMany v_restFirst v_cabman) H → va_D A (cs_PM_findRests cI cZ a_p0 a_cabman z_text z_layer z_readLayer z_readCabman z_page z_trial z_book z_kept z_isKept z_seenCabman z_seenFinger z_seenOff z_seenCame z_value z_shows v_thrown v_textSize v_place v_cabmen v_readCabmen v_acts v_seen v_seed v_bestCleaning v_bestLayers v_bestMany v_underMany v_underLeast v_restMany v_restFirst v_cabman) → va_S A s.heap H locs → lv_has ls 7 [(0, .ref a_p0), (1, .int x1), (2, .int x2), (3, .int x3), (4, .int x4), (6, .int x6)] → f_PM_findRests_88 back_13 back_21 back_33 v_cabman x1 x2 x3 x4 x6 w0 v_restMany v_restFirst = some res → W p l e (rm_ 1 (40 * 1)) s m args below meth c H locs 0 0 Q (F0 m 88 ls [.int w0]) := by
    intro back_13 K_13 back_21 K_21 back_33 K_33 x1 x2 x3 x4 x6 w0 v_restMany v_restFirst H locs ls hP hD hS hl hf
    unfold f_PM_findRests_88 at hf
    refine lv_istore (lv' := [(5, .int w0), (0, .ref a_p0), (1, .int x1), (2, .int x2), (3, .int x3), (4, .int x4), (6, .int x6)]) hx hb d_PM_findRests_88 hl (by decide) rfl (fun ls hl => ?_)
    refine lv_iinc (v := x6 + 1) (lv' := [(6, .int (x6 + 1)), (5, .int w0), (0, .ref a_p0), (1, .int x1), (2, .int x2), (3, .int x3), (4, .int x4)]) hx hb d_PM_findRests_90 hl (k := 6) rfl (rfl) (by decide) rfl (fun ls hl => ?_)
    refine lv_goto (tgt := 33) hx hb d_PM_findRests_93 (by decide) ?_
    exact K_33 x1 x2 x3 x4 w0 (x6 + 1) v_restMany v_restFirst _ _ _ hP hD hS (lv_sub hl [2, 3, 4, 5, 6, 1, 0] rfl) hf
  have B_87 : ∀ (back_13 : Int32 → Int32 → Int32 → Int32 → Int32 → Option (Int32 × Int32)) (K_13 : ∀ (x1 : Int32) (x2 : Int32) (x3 : Int32) (v_restMany : Int32) (v_restFirst : Int32) (H : Heap) (locs : List Loc) (ls : Array Slot), va_P D classes (cs_PM_findRests cI cZ a_p0 a_cabman z_text z_layer z_readLayer z_readCabman z_page z_trial z_book z_kept z_isKept z_seenCabman z_seenFinger z_seenOff z_seenCame z_value z_shows v_thrown v_textSize v_place v_cabmen v_readCabmen v_acts v_seen v_seed v_bestCleaning v_bestLayers v_bestMany v_underMany v_underLeast v_restMany v_restFirst v_cabman) H → va_D A (cs_PM_findRests cI cZ a_p0 a_cabman z_text z_layer z_readLayer z_readCabman z_page z_trial z_book z_kept z_isKept z_seenCabman z_seenFinger z_seenOff z_seenCame z_value z_shows v_thrown v_textSize v_place v_cabmen v_readCabmen v_acts v_seen v_seed v_bestCleaning v_bestLayers v_bestMany v_underMany v_underLeast v_restMany v_restFirst v_cabman) → va_S A s.heap H locs → lv_has ls 7 [(0, .ref a_p0), (1, .int x1), (2, .int x2), (3, .int x3)] → back_13 x1 x2 x3 v_restMany v_restFirst = some res → W p l e (rm_ 1 (40 * 1)) s m args below meth c H locs 0 0 Q (F0 m 13 ls [])) (back_21 : Int32 → Int32 → Int32 → Int32 → Int32 → Int32 → Option (Int32 × Int32)) (K_21 : ∀ (x1 : Int32) (x2 : Int32) (x3 : Int32) (x4 : Int32) (v_restMany : Int32) (v_restFirst : Int32) (H : Heap) (locs : List Loc) (ls : Array Slot), va_P D classes (cs_PM_findRests cI cZ a_p0 a_cabman z_text z_layer z_readLayer z_readCabman z_page z_trial z_book z_kept z_isKept z_seenCabman z_seenFinger z_seenOff z_seenCame z_value z_shows v_thrown v_textSize v_place v_cabmen v_readCabmen v_acts v_seen v_seed v_bestCleaning v_bestLayers v_bestMany v_underMany v_underLeast v_restMany v_restFirst v_cabman) H → va_D A (cs_PM_findRests cI cZ a_p0 a_cabman z_text z_layer z_readLayer z_readCabman z_page z_trial z_book z_kept z_isKept z_seenCabman z_seenFinger z_seenOff z_seenCame z_value z_shows v_thrown v_textSize v_place v_cabmen v_readCabmen v_acts v_seen v_seed v_bestCleaning v_bestLayers v_bestMany v_underMany v_underLeast v_restMany v_restFirst v_cabman) → va_S A s.heap H locs → lv_has ls 7 [(0, .ref a_p0), (1, .int x1), (2, .int x2), (3, .int x3), (4, .int x4)] → back_21 x1 x2 x3 x4 v_restMany v_restFirst = some res → W p l e (rm_ 1 (40 * 1)) s m args below meth c H locs 0 0 Q (F0 m 21 ls [])) (back_33 : Int32 → Int32 → Int32 → Int32 → Int32 → Int32 → Int32 → Int32 → Option (Int32 × Int32)) (K_33 : ∀ (x1 : Int32) (x2 : Int32) (x3 : Int32) (x4 : Int32) (x5 : Int32) (x6 : Int32) (v_restMany : Int32) (v_restFirst : Int32) (H : Heap) (locs : List Loc) (ls : Array Slot), va_P D classes (cs_PM_findRests cI cZ a_p0 a_cabman z_text z_layer z_readLayer z_readCabman z_page z_trial z_book z_kept z_isKept z_seenCabman z_seenFinger z_seenOff z_seenCame z_value z_shows v_thrown v_textSize v_place v_cabmen v_readCabmen v_acts v_seen v_seed v_bestCleaning v_bestLayers v_bestMany v_underMany v_underLeast v_restMany v_restFirst v_cabman) H → va_D A (cs_PM_findRests cI cZ a_p0 a_cabman z_text z_layer z_readLayer z_readCabman z_page z_trial z_book z_kept z_isKept z_seenCabman z_seenFinger z_seenOff z_seenCame z_value z_shows v_thrown v_textSize v_place v_cabmen v_readCabmen v_acts v_seen v_seed v_bestCleaning v_bestLayers v_bestMany v_underMany v_underLeast v_restMany v_restFirst v_cabman) → va_S A s.heap H locs → lv_has ls 7 [(0, .ref a_p0), (1, .int x1), (2, .int x2), (3, .int x3), (4, .int x4), (5, .int x5), (6, .int x6)] → back_33 x1 x2 x3 x4 x5 x6 v_restMany v_restFirst = some res → W p l e (rm_ 1 (40 * 1)) s m args below meth c H locs 0 0 Q (F0 m 33 ls [])) (x1 : Int32) (x2 : Int32) (x3 : Int32) (x4 : Int32) (x6 : Int32) (v_restMany : Int32) (v_restFirst : Int32) (H : Heap) (locs : List Loc) (ls : Array Slot), va_P D classes (cs_PM_findRests cI cZ a_p0 a_cabman z_text z_layer z_readLayer z_readCabman z_page z_trial z_book z_kept z_isKept z_seenCabman z_seenFinger z_seenOff z_seenCame z_value z_shows v_thrown v_textSize v_place v_cabmen v_readCabmen v_acts v_seen v_seed v_bestCleaning v_bestLayers v_bestMany v_underMany v_underLeast v_restMany v_restFirst v_cabman) H → va_D A (cs_PM_findRests cI cZ a_p0 a_cabman z_text z_layer z_readLayer z_readCabman z_page z_trial z_book z_kept z_isKept z_seenCabman z_seenFinger z_seenOff z_seenCame z_value z_shows v_thrown v_textSize v_place v_cabmen v_readCabmen v_acts v_seen v_seed v_bestCleaning v_bestLayers v_bestMany v_underMany v_underLeast v_restMany v_restFirst v_cabman) → va_S A s.heap H locs → lv_has ls 7 [(0, .ref a_p0), (1, .int x1), (2, .int x2), (3, .int x3), (4, .int x4), (6, .int x6)] → f_PM_findRests_87 back_13 back_21 back_33 v_cabman x1 x2 x3 x4 x6 v_restMany v_restFirst = some res → W p l e (rm_ 1 (40 * 1)) s m args below meth c H locs 0 0 Q (F0 m 87 ls []) := by
    intro back_13 K_13 back_21 K_21 back_33 K_33 x1 x2 x3 x4 x6 v_restMany v_restFirst H locs ls hP hD hS hl hf
    unfold f_PM_findRests_87 at hf
    refine lv_iconst (v := 0) hx hb d_PM_findRests_87 (by decide) ?_
    exact B_88 back_13 K_13 back_21 K_21 back_33 K_33 x1 x2 x3 x4 x6 0 v_restMany v_restFirst _ _ _ hP hD hS (lv_sub hl [0, 1, 2, 3, 4, 5] rfl) hf
  have B_33 : ∀ (back_13 : Int32 → Int32 → Int32 → Int32 → Int32 → Option (Int32 × Int32)) (K_13 : ∀ (x1 : Int32) (x2 : Int32) (x3 : Int32) (v_restMany : Int32) (v_restFirst : Int32) (H : Heap) (locs : List Loc) (ls : Array Slot), va_P D classes (cs_PM_findRests cI cZ a_p0 a_cabman z_text z_layer z_readLayer z_readCabman z_page z_trial z_book z_kept z_isKept z_seenCabman z_seenFinger z_seenOff z_seenCame z_value z_shows v_thrown v_textSize v_place v_cabmen v_readCabmen v_acts v_seen v_seed v_bestCleaning v_bestLayers v_bestMany v_underMany v_underLeast v_restMany v_restFirst v_cabman) H → va_D A (cs_PM_findRests cI cZ a_p0 a_cabman z_text z_layer z_readLayer z_readCabman z_page z_trial z_book z_kept z_isKept z_seenCabman z_seenFinger z_seenOff z_seenCame z_value z_shows v_thrown v_textSize v_place v_cabmen v_readCabmen v_acts v_seen v_seed v_bestCleaning v_bestLayers v_bestMany v_underMany v_underLeast v_restMany v_restFirst v_cabman) → va_S A s.heap H locs → lv_has ls 7 [(0, .ref a_p0), (1, .int x1), (2, .int x2), (3, .int x3)] → back_13 x1 x2 x3 v_restMany v_restFirst = some res → W p l e (rm_ 1 (40 * 1)) s m args below meth c H locs 0 0 Q (F0 m 13 ls [])) (back_21 : Int32 → Int32 → Int32 → Int32 → Int32 → Int32 → Option (Int32 × Int32)) (K_21 : ∀ (x1 : Int32) (x2 : Int32) (x3 : Int32) (x4 : Int32) (v_restMany : Int32) (v_restFirst : Int32) (H : Heap) (locs : List Loc) (ls : Array Slot), va_P D classes (cs_PM_findRests cI cZ a_p0 a_cabman z_text z_layer z_readLayer z_readCabman z_page z_trial z_book z_kept z_isKept z_seenCabman z_seenFinger z_seenOff z_seenCame z_value z_shows v_thrown v_textSize v_place v_cabmen v_readCabmen v_acts v_seen v_seed v_bestCleaning v_bestLayers v_bestMany v_underMany v_underLeast v_restMany v_restFirst v_cabman) H → va_D A (cs_PM_findRests cI cZ a_p0 a_cabman z_text z_layer z_readLayer z_readCabman z_page z_trial z_book z_kept z_isKept z_seenCabman z_seenFinger z_seenOff z_seenCame z_value z_shows v_thrown v_textSize v_place v_cabmen v_readCabmen v_acts v_seen v_seed v_bestCleaning v_bestLayers v_bestMany v_underMany v_underLeast v_restMany v_restFirst v_cabman) → va_S A s.heap H locs → lv_has ls 7 [(0, .ref a_p0), (1, .int x1), (2, .int x2), (3, .int x3), (4, .int x4)] → back_21 x1 x2 x3 x4 v_restMany v_restFirst = some res → W p l e (rm_ 1 (40 * 1)) s m args below meth c H locs 0 0 Q (F0 m 21 ls [])) (n : Nat) (x1 : Int32) (x2 : Int32) (x3 : Int32) (x4 : Int32) (x5 : Int32) (x6 : Int32) (v_restMany : Int32) (v_restFirst : Int32) (H : Heap) (locs : List Loc) (ls : Array Slot), va_P D classes (cs_PM_findRests cI cZ a_p0 a_cabman z_text z_layer z_readLayer z_readCabman z_page z_trial z_book z_kept z_isKept z_seenCabman z_seenFinger z_seenOff z_seenCame z_value z_shows v_thrown v_textSize v_place v_cabmen v_readCabmen v_acts v_seen v_seed v_bestCleaning v_bestLayers v_bestMany v_underMany v_underLeast v_restMany v_restFirst v_cabman) H → va_D A (cs_PM_findRests cI cZ a_p0 a_cabman z_text z_layer z_readLayer z_readCabman z_page z_trial z_book z_kept z_isKept z_seenCabman z_seenFinger z_seenOff z_seenCame z_value z_shows v_thrown v_textSize v_place v_cabmen v_readCabmen v_acts v_seen v_seed v_bestCleaning v_bestLayers v_bestMany v_underMany v_underLeast v_restMany v_restFirst v_cabman) → va_S A s.heap H locs → lv_has ls 7 [(0, .ref a_p0), (1, .int x1), (2, .int x2), (3, .int x3), (4, .int x4), (5, .int x5), (6, .int x6)] → f_PM_findRests_33 back_13 back_21 v_cabman n x1 x2 x3 x4 x5 x6 v_restMany v_restFirst = some res → W p l e (rm_ 1 (40 * 1)) s m args below meth c H locs 0 0 Q (F0 m 33 ls []) := by
    intro back_13 K_13 back_21 K_21 n
    induction n with
    | zero => intro x1 x2 x3 x4 x5 x6 v_restMany v_restFirst H locs ls hP hD hS hl hf; exact nomatch hf
    | succ n ih =>
      intro x1 x2 x3 x4 x5 x6 v_restMany v_restFirst H locs ls hP hD hS hl hf
      have hf : f_PM_findRests_33_b back_13 back_21 (f_PM_findRests_33 back_13 back_21 v_cabman n) v_cabman x1 x2 x3 x4 x5 x6 v_restMany v_restFirst = some res := hf
      generalize f_PM_findRests_33 back_13 back_21 v_cabman n = back_33 at ih hf
      have K_33 := ih
      unfold f_PM_findRests_33_b at hf
      refine lv_iload hx hb d_PM_findRests_33 (lv_at hl 6 rfl) ?_
      refine lv_iconst (v := 4) hx hb d_PM_findRests_35 (by decide) ?_
      refine lv_icmp_ge (tgt := 96) hx hb d_PM_findRests_36 (by decide) (fun c1 => ?_) (fun c1 => ?_)
      · have hf := o_pos c1 hf
        refine lv_aload_n hx hb d_PM_findRests_96 rfl (lv_at hl 0 rfl) ?_
        refine lv_iload hx hb d_PM_findRests_97 (lv_at hl 5 rfl) ?_
        refine lv_if_eq (tgt := 119) hx hb d_PM_findRests_99 (by decide) (fun c2 => ?_) (fun c2 => ?_)
        · have hf := o_pos c2 hf
          exact B_119 back_13 K_13 back_21 K_21 x1 x2 x3 x4 x5 v_restMany v_restFirst _ _ _ hP hD hS (lv_sub hl [0, 1, 2, 3, 4, 5] rfl) hf
        · have hf := o_neg c2 hf
          refine lv_aload_n hx hb d_PM_findRests_102 rfl (lv_at hl 0 rfl) ?_
          refine gf_PM_210 hC hP 0 rfl rfl d_PM_findRests_103 ?_
          refine lv_if_ne (tgt := 119) hx hb d_PM_findRests_106 (by decide) (fun c3 => ?_) (fun c3 => ?_)
          · have hf := o_neg c3 hf
            exact B_119 back_13 K_13 back_21 K_21 x1 x2 x3 x4 x5 v_restMany v_restFirst _ _ _ hP hD hS (lv_sub hl [0, 1, 2, 3, 4, 5] rfl) hf
          · have hf := o_pos c3 hf
            refine lv_bipush (v := 10) hx hb d_PM_findRests_109 (by decide) ?_
            refine lv_iload_n hx hb d_PM_findRests_111 rfl (lv_at hl 3 rfl) ?_
            refine lv_imul hx hb d_PM_findRests_112 ?_
            refine lv_iload hx hb d_PM_findRests_113 (lv_at hl 4 rfl) ?_
            refine lv_iadd hx hb d_PM_findRests_115 ?_
            refine lv_goto (tgt := 123) hx hb d_PM_findRests_116 (by decide) ?_
            exact B_123 back_13 K_13 back_21 K_21 x1 x2 x3 x4 x5 ((10 * x3) + x4) v_restMany v_restFirst _ _ _ hP hD hS (lv_sub hl [0, 1, 2, 3, 4, 5] rfl) hf
      · have hf := o_neg c1 hf
        refine lv_iload hx hb d_PM_findRests_39 (lv_at hl 5 rfl) ?_
        refine lv_if_eq (tgt := 87) hx hb d_PM_findRests_41 (by decide) (fun c4 => ?_) (fun c4 => ?_)
        · have hf := o_pos c4 hf
          exact B_87 back_13 K_13 back_21 K_21 back_33 K_33 x1 x2 x3 x4 x6 v_restMany v_restFirst _ _ _ hP hD hS (lv_sub hl [0, 1, 2, 3, 4, 6] rfl) hf
        · have hf := o_neg c4 hf
          refine lv_aload_n hx hb d_PM_findRests_44 rfl (lv_at hl 0 rfl) ?_
          refine lv_iload_n hx hb d_PM_findRests_45 rfl (lv_at hl 1 rfl) ?_
          refine lv_iload hx hb d_PM_findRests_46 (lv_at hl 6 rfl) ?_
          refine lv_iload hx hb d_PM_findRests_48 (lv_at hl 4 rfl) ?_
          obtain ⟨r5, h6, hf⟩ := o_bind hf
          refine cVi (rest := []) (wr := []) (wn := (cs_PM_findRests cI cZ a_p0 a_cabman z_text z_layer z_readLayer z_readCabman z_page z_trial z_book z_kept z_isKept z_seenCabman z_seenFinger z_seenOff z_seenCame z_value z_shows v_thrown v_textSize v_place v_cabmen v_readCabmen v_acts v_seen v_seed v_bestCleaning v_bestLayers v_bestMany v_underMany v_underLeast v_restMany v_restFirst v_cabman)) (c_PM_gainOf l D cI cZ a_p0 a_cabman z_text z_layer z_readLayer z_readCabman z_page z_trial z_book z_kept z_isKept z_seenCabman z_seenFinger z_seenOff z_seenCame z_value z_shows x1 x6 x4 v_thrown v_textSize v_place v_cabmen v_readCabmen v_acts v_seen v_seed v_bestCleaning v_bestLayers v_bestMany v_underMany v_underLeast v_restMany v_restFirst v_cabman r5 h6) hC hA hP hD hS hl.1 cw_PM_216 0 rfl rfl rfl ⟨Nat.le_of_ble_eq_true rfl, Nat.le_of_ble_eq_true rfl⟩ rfl rfl (Nat.le_of_ble_eq_true rfl) d_PM_findRests_50 ⟨Nat.zero_le _, Nat.zero_le _⟩ [0, 1] [] [0, 1] (by decide) (Cut_mk rfl rfl (by decide) (by decide) (by decide) rfl) (fun H locs hP hD hS => ?_)
          refine lv_aload_n hx hb d_PM_findRests_53 rfl (lv_at hl 0 rfl) ?_
          refine lv_iload_n hx hb d_PM_findRests_54 rfl (lv_at hl 1 rfl) ?_
          refine lv_iload_n hx hb d_PM_findRests_55 rfl (lv_at hl 3 rfl) ?_
          refine lv_iload hx hb d_PM_findRests_56 (lv_at hl 4 rfl) ?_
          obtain ⟨r7, h8, hf⟩ := o_bind hf
          refine cVi (rest := [.int r5]) (wr := []) (wn := (cs_PM_findRests cI cZ a_p0 a_cabman z_text z_layer z_readLayer z_readCabman z_page z_trial z_book z_kept z_isKept z_seenCabman z_seenFinger z_seenOff z_seenCame z_value z_shows v_thrown v_textSize v_place v_cabmen v_readCabmen v_acts v_seen v_seed v_bestCleaning v_bestLayers v_bestMany v_underMany v_underLeast v_restMany v_restFirst v_cabman)) (c_PM_gainOf l D cI cZ a_p0 a_cabman z_text z_layer z_readLayer z_readCabman z_page z_trial z_book z_kept z_isKept z_seenCabman z_seenFinger z_seenOff z_seenCame z_value z_shows x1 x3 x4 v_thrown v_textSize v_place v_cabmen v_readCabmen v_acts v_seen v_seed v_bestCleaning v_bestLayers v_bestMany v_underMany v_underLeast v_restMany v_restFirst v_cabman r7 h8) hC hA hP hD hS hl.1 cw_PM_216 0 rfl rfl rfl ⟨Nat.le_of_ble_eq_true rfl, Nat.le_of_ble_eq_true rfl⟩ rfl rfl (Nat.le_of_ble_eq_true rfl) d_PM_findRests_58 ⟨Nat.zero_le _, Nat.zero_le _⟩ [0, 1] [] [0, 1] (by decide) (Cut_mk rfl rfl (by decide) (by decide) (by decide) rfl) (fun H locs hP hD hS => ?_)
          refine lv_icmp_gt (tgt := 87) hx hb d_PM_findRests_61 (by decide) (fun c9 => ?_) (fun c9 => ?_)
          · have hf := o_pos c9 hf
            exact B_87 back_13 K_13 back_21 K_21 back_33 K_33 x1 x2 x3 x4 x6 v_restMany v_restFirst _ _ _ hP hD hS (lv_sub hl [0, 1, 2, 3, 4, 6] rfl) hf
          · have hf := o_neg c9 hf
            refine lv_aload_n hx hb d_PM_findRests_64 rfl (lv_at hl 0 rfl) ?_
            refine lv_iload_n hx hb d_PM_findRests_65 rfl (lv_at hl 2 rfl) ?_
            refine lv_iload hx hb d_PM_findRests_66 (lv_at hl 6 rfl) ?_
            refine lv_iload_n hx hb d_PM_findRests_68 rfl (lv_at hl 3 rfl) ?_
            obtain ⟨r10, h11, hf⟩ := o_bind hf
            refine cVi (rest := []) (wr := []) (wn := (cs_PM_findRests cI cZ a_p0 a_cabman z_text z_layer z_readLayer z_readCabman z_page z_trial z_book z_kept z_isKept z_seenCabman z_seenFinger z_seenOff z_seenCame z_value z_shows v_thrown v_textSize v_place v_cabmen v_readCabmen v_acts v_seen v_seed v_bestCleaning v_bestLayers v_bestMany v_underMany v_underLeast v_restMany v_restFirst v_cabman)) (c_PM_gainOf l D cI cZ a_p0 a_cabman z_text z_layer z_readLayer z_readCabman z_page z_trial z_book z_kept z_isKept z_seenCabman z_seenFinger z_seenOff z_seenCame z_value z_shows x2 x6 x3 v_thrown v_textSize v_place v_cabmen v_readCabmen v_acts v_seen v_seed v_bestCleaning v_bestLayers v_bestMany v_underMany v_underLeast v_restMany v_restFirst v_cabman r10 h11) hC hA hP hD hS hl.1 cw_PM_216 0 rfl rfl rfl ⟨Nat.le_of_ble_eq_true rfl, Nat.le_of_ble_eq_true rfl⟩ rfl rfl (Nat.le_of_ble_eq_true rfl) d_PM_findRests_69 ⟨Nat.zero_le _, Nat.zero_le _⟩ [0, 1] [] [0, 1] (by decide) (Cut_mk rfl rfl (by decide) (by decide) (by decide) rfl) (fun H locs hP hD hS => ?_)
            refine lv_aload_n hx hb d_PM_findRests_72 rfl (lv_at hl 0 rfl) ?_
            refine lv_iload_n hx hb d_PM_findRests_73 rfl (lv_at hl 2 rfl) ?_
            refine lv_iload hx hb d_PM_findRests_74 (lv_at hl 4 rfl) ?_
            refine lv_iload_n hx hb d_PM_findRests_76 rfl (lv_at hl 3 rfl) ?_
            obtain ⟨r12, h13, hf⟩ := o_bind hf
            refine cVi (rest := [.int r10]) (wr := []) (wn := (cs_PM_findRests cI cZ a_p0 a_cabman z_text z_layer z_readLayer z_readCabman z_page z_trial z_book z_kept z_isKept z_seenCabman z_seenFinger z_seenOff z_seenCame z_value z_shows v_thrown v_textSize v_place v_cabmen v_readCabmen v_acts v_seen v_seed v_bestCleaning v_bestLayers v_bestMany v_underMany v_underLeast v_restMany v_restFirst v_cabman)) (c_PM_gainOf l D cI cZ a_p0 a_cabman z_text z_layer z_readLayer z_readCabman z_page z_trial z_book z_kept z_isKept z_seenCabman z_seenFinger z_seenOff z_seenCame z_value z_shows x2 x4 x3 v_thrown v_textSize v_place v_cabmen v_readCabmen v_acts v_seen v_seed v_bestCleaning v_bestLayers v_bestMany v_underMany v_underLeast v_restMany v_restFirst v_cabman r12 h13) hC hA hP hD hS hl.1 cw_PM_216 0 rfl rfl rfl ⟨Nat.le_of_ble_eq_true rfl, Nat.le_of_ble_eq_true rfl⟩ rfl rfl (Nat.le_of_ble_eq_true rfl) d_PM_findRests_77 ⟨Nat.zero_le _, Nat.zero_le _⟩ [0, 1] [] [0, 1] (by decide) (Cut_mk rfl rfl (by decide) (by decide) (by decide) rfl) (fun H locs hP hD hS => ?_)
            refine lv_icmp_gt (tgt := 87) hx hb d_PM_findRests_80 (by decide) (fun c14 => ?_) (fun c14 => ?_)
            · have hf := o_pos c14 hf
              exact B_87 back_13 K_13 back_21 K_21 back_33 K_33 x1 x2 x3 x4 x6 v_restMany v_restFirst _ _ _ hP hD hS (lv_sub hl [0, 1, 2, 3, 4, 6] rfl) hf
            · have hf := o_neg c14 hf
              refine lv_iconst (v := 1) hx hb d_PM_findRests_83 (by decide) ?_
              refine lv_goto (tgt := 88) hx hb d_PM_findRests_84 (by decide) ?_
              exact B_88 back_13 K_13 back_21 K_21 back_33 K_33 x1 x2 x3 x4 x6 1 v_restMany v_restFirst _ _ _ hP hD hS (lv_sub hl [0, 1, 2, 3, 4, 6] rfl) hf
  have B_21 : ∀ (back_13 : Int32 → Int32 → Int32 → Int32 → Int32 → Option (Int32 × Int32)) (K_13 : ∀ (x1 : Int32) (x2 : Int32) (x3 : Int32) (v_restMany : Int32) (v_restFirst : Int32) (H : Heap) (locs : List Loc) (ls : Array Slot), va_P D classes (cs_PM_findRests cI cZ a_p0 a_cabman z_text z_layer z_readLayer z_readCabman z_page z_trial z_book z_kept z_isKept z_seenCabman z_seenFinger z_seenOff z_seenCame z_value z_shows v_thrown v_textSize v_place v_cabmen v_readCabmen v_acts v_seen v_seed v_bestCleaning v_bestLayers v_bestMany v_underMany v_underLeast v_restMany v_restFirst v_cabman) H → va_D A (cs_PM_findRests cI cZ a_p0 a_cabman z_text z_layer z_readLayer z_readCabman z_page z_trial z_book z_kept z_isKept z_seenCabman z_seenFinger z_seenOff z_seenCame z_value z_shows v_thrown v_textSize v_place v_cabmen v_readCabmen v_acts v_seen v_seed v_bestCleaning v_bestLayers v_bestMany v_underMany v_underLeast v_restMany v_restFirst v_cabman) → va_S A s.heap H locs → lv_has ls 7 [(0, .ref a_p0), (1, .int x1), (2, .int x2), (3, .int x3)] → back_13 x1 x2 x3 v_restMany v_restFirst = some res → W p l e (rm_ 1 (40 * 1)) s m args below meth c H locs 0 0 Q (F0 m 13 ls [])) (n : Nat) (x1 : Int32) (x2 : Int32) (x3 : Int32) (x4 : Int32) (v_restMany : Int32) (v_restFirst : Int32) (H : Heap) (locs : List Loc) (ls : Array Slot), va_P D classes (cs_PM_findRests cI cZ a_p0 a_cabman z_text z_layer z_readLayer z_readCabman z_page z_trial z_book z_kept z_isKept z_seenCabman z_seenFinger z_seenOff z_seenCame z_value z_shows v_thrown v_textSize v_place v_cabmen v_readCabmen v_acts v_seen v_seed v_bestCleaning v_bestLayers v_bestMany v_underMany v_underLeast v_restMany v_restFirst v_cabman) H → va_D A (cs_PM_findRests cI cZ a_p0 a_cabman z_text z_layer z_readLayer z_readCabman z_page z_trial z_book z_kept z_isKept z_seenCabman z_seenFinger z_seenOff z_seenCame z_value z_shows v_thrown v_textSize v_place v_cabmen v_readCabmen v_acts v_seen v_seed v_bestCleaning v_bestLayers v_bestMany v_underMany v_underLeast v_restMany v_restFirst v_cabman) → va_S A s.heap H locs → lv_has ls 7 [(0, .ref a_p0), (1, .int x1), (2, .int x2), (3, .int x3), (4, .int x4)] → f_PM_findRests_21 back_13 v_cabman n x1 x2 x3 x4 v_restMany v_restFirst = some res → W p l e (rm_ 1 (40 * 1)) s m args below meth c H locs 0 0 Q (F0 m 21 ls []) := by
    intro back_13 K_13 n
    induction n with
    | zero => intro x1 x2 x3 x4 v_restMany v_restFirst H locs ls hP hD hS hl hf; exact nomatch hf
    | succ n ih =>
      intro x1 x2 x3 x4 v_restMany v_restFirst H locs ls hP hD hS hl hf
      have hf : f_PM_findRests_21_b back_13 (f_PM_findRests_21 back_13 v_cabman n) v_cabman x1 x2 x3 x4 v_restMany v_restFirst = some res := hf
      generalize f_PM_findRests_21 back_13 v_cabman n = back_21 at ih hf
      have K_21 := ih
      unfold f_PM_findRests_21_b at hf
      refine lv_iload hx hb d_PM_findRests_21 (lv_at hl 4 rfl) ?_
      refine lv_iconst (v := 4) hx hb d_PM_findRests_23 (by decide) ?_
      refine lv_icmp_ge (tgt := 151) hx hb d_PM_findRests_24 (by decide) (fun c1 => ?_) (fun c1 => ?_)
      · have hf := o_pos c1 hf
        refine lv_iinc (v := x3 + 1) (lv' := [(3, .int (x3 + 1)), (0, .ref a_p0), (1, .int x1), (2, .int x2), (4, .int x4)]) hx hb d_PM_findRests_151 hl (k := 3) rfl (rfl) (by decide) rfl (fun ls hl => ?_)
        refine lv_goto (tgt := 13) hx hb d_PM_findRests_154 (by decide) ?_
        exact K_13 x1 x2 (x3 + 1) v_restMany v_restFirst _ _ _ hP hD hS (lv_sub hl [1, 2, 3, 0] rfl) hf
      · have hf := o_neg c1 hf
        refine lv_iconst (v := 1) hx hb d_PM_findRests_27 (by decide) ?_
        refine lv_istore (lv' := [(5, .int 1), (0, .ref a_p0), (1, .int x1), (2, .int x2), (3, .int x3), (4, .int x4)]) hx hb d_PM_findRests_28 hl (by decide) rfl (fun ls hl => ?_)
        refine lv_iconst (v := 0) hx hb d_PM_findRests_30 (by decide) ?_
        refine lv_istore (lv' := [(6, .int 0), (5, .int 1), (0, .ref a_p0), (1, .int x1), (2, .int x2), (3, .int x3), (4, .int x4)]) hx hb d_PM_findRests_31 hl (by decide) rfl (fun ls hl => ?_)
        exact B_33 back_13 K_13 back_21 K_21 300 x1 x2 x3 x4 1 0 v_restMany v_restFirst _ _ _ hP hD hS (lv_sub hl [2, 3, 4, 5, 6, 1, 0] rfl) hf
  have B_13 : ∀  (n : Nat) (x1 : Int32) (x2 : Int32) (x3 : Int32) (v_restMany : Int32) (v_restFirst : Int32) (H : Heap) (locs : List Loc) (ls : Array Slot), va_P D classes (cs_PM_findRests cI cZ a_p0 a_cabman z_text z_layer z_readLayer z_readCabman z_page z_trial z_book z_kept z_isKept z_seenCabman z_seenFinger z_seenOff z_seenCame z_value z_shows v_thrown v_textSize v_place v_cabmen v_readCabmen v_acts v_seen v_seed v_bestCleaning v_bestLayers v_bestMany v_underMany v_underLeast v_restMany v_restFirst v_cabman) H → va_D A (cs_PM_findRests cI cZ a_p0 a_cabman z_text z_layer z_readLayer z_readCabman z_page z_trial z_book z_kept z_isKept z_seenCabman z_seenFinger z_seenOff z_seenCame z_value z_shows v_thrown v_textSize v_place v_cabmen v_readCabmen v_acts v_seen v_seed v_bestCleaning v_bestLayers v_bestMany v_underMany v_underLeast v_restMany v_restFirst v_cabman) → va_S A s.heap H locs → lv_has ls 7 [(0, .ref a_p0), (1, .int x1), (2, .int x2), (3, .int x3)] → f_PM_findRests_13  v_cabman n x1 x2 x3 v_restMany v_restFirst = some res → W p l e (rm_ 1 (40 * 1)) s m args below meth c H locs 0 0 Q (F0 m 13 ls []) := by
    intro  n
    induction n with
    | zero => intro x1 x2 x3 v_restMany v_restFirst H locs ls hP hD hS hl hf; exact nomatch hf
    | succ n ih =>
      intro x1 x2 x3 v_restMany v_restFirst H locs ls hP hD hS hl hf
      have hf : f_PM_findRests_13_b  (f_PM_findRests_13  v_cabman n) v_cabman x1 x2 x3 v_restMany v_restFirst = some res := hf
      generalize f_PM_findRests_13  v_cabman n = back_13 at ih hf
      have K_13 := ih
      unfold f_PM_findRests_13_b at hf
      refine lv_iload_n hx hb d_PM_findRests_13 rfl (lv_at hl 3 rfl) ?_
      refine lv_iconst (v := 4) hx hb d_PM_findRests_14 (by decide) ?_
      refine lv_icmp_ge (tgt := 157) hx hb d_PM_findRests_15 (by decide) (fun c1 => ?_) (fun c1 => ?_)
      · have hf := o_pos c1 hf
        have hr := Option.some.inj hf
        exact RET _ _ _ _ _ (congrArg (fun r : Int32 × Int32 => (cs_PM_findRests cI cZ a_p0 a_cabman z_text z_layer z_readLayer z_readCabman z_page z_trial z_book z_kept z_isKept z_seenCabman z_seenFinger z_seenOff z_seenCame z_value z_shows v_thrown v_textSize v_place v_cabmen v_readCabmen v_acts v_seen v_seed v_bestCleaning v_bestLayers v_bestMany v_underMany v_underLeast r.1 r.2 v_cabman)) hr) hP hD hS d_PM_findRests_157
      · have hf := o_neg c1 hf
        refine lv_iconst (v := 0) hx hb d_PM_findRests_18 (by decide) ?_
        refine lv_istore (lv' := [(4, .int 0), (0, .ref a_p0), (1, .int x1), (2, .int x2), (3, .int x3)]) hx hb d_PM_findRests_19 hl (by decide) rfl (fun ls hl => ?_)
        exact B_21 back_13 K_13 300 x1 x2 x3 0 v_restMany v_restFirst _ _ _ hP hD hS (lv_sub hl [1, 2, 3, 4, 0] rfl) hf
  unfold f_PM_findRests at hf
  have E : ∀ (H : Heap) (locs : List Loc), va_P D classes (cs_PM_findRests cI cZ a_p0 a_cabman z_text z_layer z_readLayer z_readCabman z_page z_trial z_book z_kept z_isKept z_seenCabman z_seenFinger z_seenOff z_seenCame z_value z_shows v_thrown v_textSize v_place v_cabmen v_readCabmen v_acts v_seen v_seed v_bestCleaning v_bestLayers v_bestMany v_underMany v_underLeast v_restMany v_restFirst v_cabman) H → va_S A s.heap H locs → W p l e (rm_ 1 (40 * 1)) s m args below meth c H locs 0 0 Q (F0 m 0 ls []) := by
    intro H locs hP hS
    refine lv_aload_n hx hb d_PM_findRests_0 rfl (lv_at hl 0 rfl) ?_
    refine lv_iconst (v := 0) hx hb d_PM_findRests_1 (by decide) ?_
    refine pf_PM_210 hC hP hD hS 0 rfl (Nat.le_of_ble_eq_true rfl) d_PM_findRests_2 (fun H locs hP hD hS => ?_)
    have hP : va_P D classes (cs_PM_findRests cI cZ a_p0 a_cabman z_text z_layer z_readLayer z_readCabman z_page z_trial z_book z_kept z_isKept z_seenCabman z_seenFinger z_seenOff z_seenCame z_value z_shows v_thrown v_textSize v_place v_cabmen v_readCabmen v_acts v_seen v_seed v_bestCleaning v_bestLayers v_bestMany v_underMany v_underLeast 0 v_restFirst v_cabman) H := hP
    have hD : va_D A (cs_PM_findRests cI cZ a_p0 a_cabman z_text z_layer z_readLayer z_readCabman z_page z_trial z_book z_kept z_isKept z_seenCabman z_seenFinger z_seenOff z_seenCame z_value z_shows v_thrown v_textSize v_place v_cabmen v_readCabmen v_acts v_seen v_seed v_bestCleaning v_bestLayers v_bestMany v_underMany v_underLeast 0 v_restFirst v_cabman) := hD
    refine lv_aload_n hx hb d_PM_findRests_5 rfl (lv_at hl 0 rfl) ?_
    refine lv_bipush (v := (-9)) hx hb d_PM_findRests_6 (by decide) ?_
    refine pf_PM_213 hC hP hD hS 0 rfl (Nat.le_of_ble_eq_true rfl) d_PM_findRests_8 (fun H locs hP hD hS => ?_)
    have hP : va_P D classes (cs_PM_findRests cI cZ a_p0 a_cabman z_text z_layer z_readLayer z_readCabman z_page z_trial z_book z_kept z_isKept z_seenCabman z_seenFinger z_seenOff z_seenCame z_value z_shows v_thrown v_textSize v_place v_cabmen v_readCabmen v_acts v_seen v_seed v_bestCleaning v_bestLayers v_bestMany v_underMany v_underLeast 0 ((-9)) v_cabman) H := hP
    have hD : va_D A (cs_PM_findRests cI cZ a_p0 a_cabman z_text z_layer z_readLayer z_readCabman z_page z_trial z_book z_kept z_isKept z_seenCabman z_seenFinger z_seenOff z_seenCame z_value z_shows v_thrown v_textSize v_place v_cabmen v_readCabmen v_acts v_seen v_seed v_bestCleaning v_bestLayers v_bestMany v_underMany v_underLeast 0 ((-9)) v_cabman) := hD
    refine lv_iconst (v := 0) hx hb d_PM_findRests_11 (by decide) ?_
    refine lv_istore_n (lv' := [(3, .int 0), (0, .ref a_p0), (1, .int i1), (2, .int i2)]) hx hb d_PM_findRests_12 rfl hl (by decide) rfl (fun ls hl => ?_)
    exact B_13 300 i1 i2 0 0 ((-9)) _ _ _ hP hD hS (lv_sub hl [1, 2, 3, 0] rfl) hf
  exact E _ _ hP hS
set_option maxHeartbeats 4000000 in
set_option maxRecDepth 100000 in
theorem c_PM_rests (l : Launch) (D : va_G) (cI cZ : ClassId) (a_p0 a_cabman z_text z_layer z_readLayer z_readCabman z_page z_trial z_book z_kept z_isKept z_seenCabman z_seenFinger z_seenOff z_seenCame z_value z_shows : Nat) (i1 : Int32) (i2 : Int32) (i3 : Int32) (v_thrown : Int32) (v_textSize : Int32) (v_place : Int32) (v_cabmen : Int32) (v_readCabmen : Int32) (v_acts : Int32) (v_seen : Int32) (v_seed : Int64) (v_bestCleaning : Int32) (v_bestLayers : Int32) (v_bestMany : Int32) (v_underMany : Int32) (v_underLeast : Int32) (v_restMany : Int32) (v_restFirst : Int32) (v_cabman : Nat → Int32) (res : Int32 × Int32 × Int32 × Int32) (hf : f_PM_rests i1 i2 i3 v_cabmen v_cabman v_thrown v_restMany v_restFirst = some res) : CtI l y_PM_rests b_PM_rests 4 (some .int) 2 D cI cZ [.ref a_p0, .int i1, .int i2, .int i3] (cs_PM_rests cI cZ a_p0 a_cabman z_text z_layer z_readLayer z_readCabman z_page z_trial z_book z_kept z_isKept z_seenCabman z_seenFinger z_seenOff z_seenCame z_value z_shows v_thrown v_textSize v_place v_cabmen v_readCabmen v_acts v_seen v_seed v_bestCleaning v_bestLayers v_bestMany v_underMany v_underLeast v_restMany v_restFirst v_cabman) res.1 (cs_PM_rests cI cZ a_p0 a_cabman z_text z_layer z_readLayer z_readCabman z_page z_trial z_book z_kept z_isKept z_seenCabman z_seenFinger z_seenOff z_seenCame z_value z_shows res.2.1 v_textSize v_place v_cabmen v_readCabmen v_acts v_seen v_seed v_bestCleaning v_bestLayers v_bestMany v_underMany v_underLeast res.2.2.1 res.2.2.2 v_cabman) := by
  refine CtI_mk (by decide) (Nat.le_of_ble_eq_true rfl) ?_
  intro p e s m args below meth c A Q hC hA hP hD RET ls hl
  have hC : Cx p s m args meth c b_PM_rests 4 R_PM D cI cZ := hC
  have hl : lv_has ls 4 [(0, .ref a_p0), (1, .int i1), (2, .int i2), (3, .int i3)] := hl
  obtain ⟨hx, hb, hml, hown, hts, hlk, hKK⟩ := id hC
  have hS : va_S A s.heap s.heap [] := va_S.rf
  have B_21 : ∀  (v_thrown : Int32) (v_restMany : Int32) (v_restFirst : Int32) (H : Heap) (locs : List Loc) (ls : Array Slot), va_P D classes (cs_PM_rests cI cZ a_p0 a_cabman z_text z_layer z_readLayer z_readCabman z_page z_trial z_book z_kept z_isKept z_seenCabman z_seenFinger z_seenOff z_seenCame z_value z_shows v_thrown v_textSize v_place v_cabmen v_readCabmen v_acts v_seen v_seed v_bestCleaning v_bestLayers v_bestMany v_underMany v_underLeast v_restMany v_restFirst v_cabman) H → va_D A (cs_PM_rests cI cZ a_p0 a_cabman z_text z_layer z_readLayer z_readCabman z_page z_trial z_book z_kept z_isKept z_seenCabman z_seenFinger z_seenOff z_seenCame z_value z_shows v_thrown v_textSize v_place v_cabmen v_readCabmen v_acts v_seen v_seed v_bestCleaning v_bestLayers v_bestMany v_underMany v_underLeast v_restMany v_restFirst v_cabman) → va_S A s.heap H locs → lv_has ls 4 [] → f_PM_rests_21  v_cabmen v_cabman v_thrown v_restMany v_restFirst = some res → W p l e (rm_ 2 (40 * 2)) s m args below meth c H locs 0 0 Q (F0 m 21 ls []) := by
    intro  v_thrown v_restMany v_restFirst H locs ls hP hD hS hl hf
    unfold f_PM_rests_21 at hf
    refine lv_iconst (v := (-1)) hx hb d_PM_rests_21 (by decide) ?_
    have hr := Option.some.inj hf
    exact RET _ _ _ _ _ _ rfl (congrArg (fun r : Int32 × Int32 × Int32 × Int32 => r.1) hr) (congrArg (fun r : Int32 × Int32 × Int32 × Int32 => (cs_PM_rests cI cZ a_p0 a_cabman z_text z_layer z_readLayer z_readCabman z_page z_trial z_book z_kept z_isKept z_seenCabman z_seenFinger z_seenOff z_seenCame z_value z_shows r.2.1 v_textSize v_place v_cabmen v_readCabmen v_acts v_seen v_seed v_bestCleaning v_bestLayers v_bestMany v_underMany v_underLeast r.2.2.1 r.2.2.2 v_cabman)) hr) hP hD hS d_PM_rests_22
  have B_38 : ∀  (v_thrown : Int32) (v_restMany : Int32) (v_restFirst : Int32) (H : Heap) (locs : List Loc) (ls : Array Slot), va_P D classes (cs_PM_rests cI cZ a_p0 a_cabman z_text z_layer z_readLayer z_readCabman z_page z_trial z_book z_kept z_isKept z_seenCabman z_seenFinger z_seenOff z_seenCame z_value z_shows v_thrown v_textSize v_place v_cabmen v_readCabmen v_acts v_seen v_seed v_bestCleaning v_bestLayers v_bestMany v_underMany v_underLeast v_restMany v_restFirst v_cabman) H → va_D A (cs_PM_rests cI cZ a_p0 a_cabman z_text z_layer z_readLayer z_readCabman z_page z_trial z_book z_kept z_isKept z_seenCabman z_seenFinger z_seenOff z_seenCame z_value z_shows v_thrown v_textSize v_place v_cabmen v_readCabmen v_acts v_seen v_seed v_bestCleaning v_bestLayers v_bestMany v_underMany v_underLeast v_restMany v_restFirst v_cabman) → va_S A s.heap H locs → lv_has ls 4 [] → f_PM_rests_38  v_cabmen v_cabman v_thrown v_restMany v_restFirst = some res → W p l e (rm_ 2 (40 * 2)) s m args below meth c H locs 0 0 Q (F0 m 38 ls []) := by
    intro  v_thrown v_restMany v_restFirst H locs ls hP hD hS hl hf
    unfold f_PM_rests_38 at hf
    refine lv_bipush (v := (-2)) hx hb d_PM_rests_38 (by decide) ?_
    have hr := Option.some.inj hf
    exact RET _ _ _ _ _ _ rfl (congrArg (fun r : Int32 × Int32 × Int32 × Int32 => r.1) hr) (congrArg (fun r : Int32 × Int32 × Int32 × Int32 => (cs_PM_rests cI cZ a_p0 a_cabman z_text z_layer z_readLayer z_readCabman z_page z_trial z_book z_kept z_isKept z_seenCabman z_seenFinger z_seenOff z_seenCame z_value z_shows r.2.1 v_textSize v_place v_cabmen v_readCabmen v_acts v_seen v_seed v_bestCleaning v_bestLayers v_bestMany v_underMany v_underLeast r.2.2.1 r.2.2.2 v_cabman)) hr) hP hD hS d_PM_rests_40
  have B_62 : ∀  (w0 : Int32) (v_thrown : Int32) (v_restMany : Int32) (v_restFirst : Int32) (H : Heap) (locs : List Loc) (ls : Array Slot), va_P D classes (cs_PM_rests cI cZ a_p0 a_cabman z_text z_layer z_readLayer z_readCabman z_page z_trial z_book z_kept z_isKept z_seenCabman z_seenFinger z_seenOff z_seenCame z_value z_shows v_thrown v_textSize v_place v_cabmen v_readCabmen v_acts v_seen v_seed v_bestCleaning v_bestLayers v_bestMany v_underMany v_underLeast v_restMany v_restFirst v_cabman) H → va_D A (cs_PM_rests cI cZ a_p0 a_cabman z_text z_layer z_readLayer z_readCabman z_page z_trial z_book z_kept z_isKept z_seenCabman z_seenFinger z_seenOff z_seenCame z_value z_shows v_thrown v_textSize v_place v_cabmen v_readCabmen v_acts v_seen v_seed v_bestCleaning v_bestLayers v_bestMany v_underMany v_underLeast v_restMany v_restFirst v_cabman) → va_S A s.heap H locs → lv_has ls 4 [] → f_PM_rests_62  v_cabmen v_cabman w0 v_thrown v_restMany v_restFirst = some res → W p l e (rm_ 2 (40 * 2)) s m args below meth c H locs 0 0 Q (F0 m 62 ls [.int w0]) := by
    intro  w0 v_thrown v_restMany v_restFirst H locs ls hP hD hS hl hf
    unfold f_PM_rests_62 at hf
    have hr := Option.some.inj hf
    exact RET _ _ _ _ _ _ rfl (congrArg (fun r : Int32 × Int32 × Int32 × Int32 => r.1) hr) (congrArg (fun r : Int32 × Int32 × Int32 × Int32 => (cs_PM_rests cI cZ a_p0 a_cabman z_text z_layer z_readLayer z_readCabman z_page z_trial z_book z_kept z_isKept z_seenCabman z_seenFinger z_seenOff z_seenCame z_value z_shows r.2.1 v_textSize v_place v_cabmen v_readCabmen v_acts v_seen v_seed v_bestCleaning v_bestLayers v_bestMany v_underMany v_underLeast r.2.2.1 r.2.2.2 v_cabman)) hr) hP hD hS d_PM_rests_62
  unfold f_PM_rests at hf
  have E : ∀ (H : Heap) (locs : List Loc), va_P D classes (cs_PM_rests cI cZ a_p0 a_cabman z_text z_layer z_readLayer z_readCabman z_page z_trial z_book z_kept z_isKept z_seenCabman z_seenFinger z_seenOff z_seenCame z_value z_shows v_thrown v_textSize v_place v_cabmen v_readCabmen v_acts v_seen v_seed v_bestCleaning v_bestLayers v_bestMany v_underMany v_underLeast v_restMany v_restFirst v_cabman) H → va_S A s.heap H locs → W p l e (rm_ 2 (40 * 2)) s m args below meth c H locs 0 0 Q (F0 m 0 ls []) := by
    intro H locs hP hS
    refine lv_aload_n hx hb d_PM_rests_0 rfl (lv_at hl 0 rfl) ?_
    refine lv_iconst (v := 0) hx hb d_PM_rests_1 (by decide) ?_
    refine pf_PM_59 hC hP hD hS 0 rfl (Nat.le_of_ble_eq_true rfl) d_PM_rests_2 (fun H locs hP hD hS => ?_)
    have hP : va_P D classes (cs_PM_rests cI cZ a_p0 a_cabman z_text z_layer z_readLayer z_readCabman z_page z_trial z_book z_kept z_isKept z_seenCabman z_seenFinger z_seenOff z_seenCame z_value z_shows 0 v_textSize v_place v_cabmen v_readCabmen v_acts v_seen v_seed v_bestCleaning v_bestLayers v_bestMany v_underMany v_underLeast v_restMany v_restFirst v_cabman) H := hP
    have hD : va_D A (cs_PM_rests cI cZ a_p0 a_cabman z_text z_layer z_readLayer z_readCabman z_page z_trial z_book z_kept z_isKept z_seenCabman z_seenFinger z_seenOff z_seenCame z_value z_shows 0 v_textSize v_place v_cabmen v_readCabmen v_acts v_seen v_seed v_bestCleaning v_bestLayers v_bestMany v_underMany v_underLeast v_restMany v_restFirst v_cabman) := hD
    refine lv_aload_n hx hb d_PM_rests_5 rfl (lv_at hl 0 rfl) ?_
    refine lv_iload_n hx hb d_PM_rests_6 rfl (lv_at hl 1 rfl) ?_
    obtain ⟨r1, h2, hf⟩ := o_bind hf
    refine cVi (rest := []) (wr := [(a_cabman, .inl (cI, 30, .inl v_cabman))]) (wn := (cs_PM_rests cI cZ a_p0 a_cabman z_text z_layer z_readLayer z_readCabman z_page z_trial z_book z_kept z_isKept z_seenCabman z_seenFinger z_seenOff z_seenCame z_value z_shows 0 v_textSize v_place v_cabmen v_readCabmen v_acts v_seen v_seed v_bestCleaning v_bestLayers v_bestMany v_underMany v_underLeast v_restMany v_restFirst v_cabman)) (c_PM_noCabman l D cI cZ a_p0 z_text z_layer a_cabman z_readLayer z_readCabman z_page z_trial z_book z_kept z_isKept z_seenCabman z_seenFinger z_seenOff z_seenCame z_value z_shows i1 0 v_textSize v_place v_cabmen v_readCabmen v_acts v_seen v_seed v_bestCleaning v_bestLayers v_bestMany v_underMany v_underLeast v_restMany v_restFirst r1 h2) hC hA hP hD hS hl.1 cw_PM_133 0 rfl rfl rfl ⟨Nat.le_of_ble_eq_true rfl, Nat.le_of_ble_eq_true rfl⟩ rfl rfl (Nat.le_of_ble_eq_true rfl) d_PM_rests_7 ⟨Nat.zero_le _, Nat.zero_le _⟩ [0] [1] [1, 0] (by decide) (Cut_mk rfl rfl (by decide) (by decide) (by decide) rfl) (fun H locs hP hD hS => ?_)
    refine lv_if_ne (tgt := 21) hx hb d_PM_rests_10 (by decide) (fun c3 => ?_) (fun c3 => ?_)
    · have hf := o_neg c3 hf
      exact B_21 0 v_restMany v_restFirst _ _ _ hP hD hS (lv_sub hl [] rfl) hf
    · have hf := o_pos c3 hf
      refine lv_aload_n hx hb d_PM_rests_13 rfl (lv_at hl 0 rfl) ?_
      refine lv_iload_n hx hb d_PM_rests_14 rfl (lv_at hl 2 rfl) ?_
      obtain ⟨r4, h5, hf⟩ := o_bind hf
      refine cVi (rest := []) (wr := [(a_cabman, .inl (cI, 30, .inl v_cabman))]) (wn := (cs_PM_rests cI cZ a_p0 a_cabman z_text z_layer z_readLayer z_readCabman z_page z_trial z_book z_kept z_isKept z_seenCabman z_seenFinger z_seenOff z_seenCame z_value z_shows 0 v_textSize v_place v_cabmen v_readCabmen v_acts v_seen v_seed v_bestCleaning v_bestLayers v_bestMany v_underMany v_underLeast v_restMany v_restFirst v_cabman)) (c_PM_noCabman l D cI cZ a_p0 z_text z_layer a_cabman z_readLayer z_readCabman z_page z_trial z_book z_kept z_isKept z_seenCabman z_seenFinger z_seenOff z_seenCame z_value z_shows i2 0 v_textSize v_place v_cabmen v_readCabmen v_acts v_seen v_seed v_bestCleaning v_bestLayers v_bestMany v_underMany v_underLeast v_restMany v_restFirst r4 h5) hC hA hP hD hS hl.1 cw_PM_133 0 rfl rfl rfl ⟨Nat.le_of_ble_eq_true rfl, Nat.le_of_ble_eq_true rfl⟩ rfl rfl (Nat.le_of_ble_eq_true rfl) d_PM_rests_15 ⟨Nat.zero_le _, Nat.zero_le _⟩ [0] [1] [1, 0] (by decide) (Cut_mk rfl rfl (by decide) (by decide) (by decide) rfl) (fun H locs hP hD hS => ?_)
      refine lv_if_eq (tgt := 23) hx hb d_PM_rests_18 (by decide) (fun c6 => ?_) (fun c6 => ?_)
      · have hf := o_pos c6 hf
        refine lv_iload_n hx hb d_PM_rests_23 rfl (lv_at hl 1 rfl) ?_
        refine lv_iload_n hx hb d_PM_rests_24 rfl (lv_at hl 2 rfl) ?_
        refine lv_icmp_eq (tgt := 38) hx hb d_PM_rests_25 (by decide) (fun c7 => ?_) (fun c7 => ?_)
        · have hf := o_pos c7 hf
          exact B_38 0 v_restMany v_restFirst _ _ _ hP hD hS (lv_sub hl [] rfl) hf
        · have hf := o_neg c7 hf
          refine lv_iload_n hx hb d_PM_rests_28 rfl (lv_at hl 3 rfl) ?_
          refine lv_i2l (v := Int32.toInt64 i3) hx hb d_PM_rests_29 rfl ?_
          refine lv_lconst (v := 0) hx hb d_PM_rests_30 (by decide) ?_
          refine lv_lconst (v := 1) hx hb d_PM_rests_31 (by decide) ?_
          obtain ⟨r8, h9, hf⟩ := o_bind hf
          refine cSi0 (rest := []) (c_PM_in l D cI cZ (Int32.toInt64 i3) 0 1 r8 h9) hC hA hP hD hS hl.1 cw_PM_66 ⟨Nat.le_of_ble_eq_true rfl, Nat.le_of_ble_eq_true rfl⟩ rfl rfl (Nat.le_of_ble_eq_true rfl) d_PM_rests_32 ⟨Nat.zero_le _, Nat.zero_le _⟩ (fun H locs hP hS => ?_)
          refine lv_if_ne (tgt := 41) hx hb d_PM_rests_35 (by decide) (fun c10 => ?_) (fun c10 => ?_)
          · have hf := o_neg c10 hf
            refine lv_aload_n hx hb d_PM_rests_41 rfl (lv_at hl 0 rfl) ?_
            refine lv_iload_n hx hb d_PM_rests_42 rfl (lv_at hl 1 rfl) ?_
            refine lv_iload_n hx hb d_PM_rests_43 rfl (lv_at hl 2 rfl) ?_
            obtain ⟨r11, h12, hf⟩ := o_bind hf
            refine cVv (rest := []) (wr := []) (wn := (cs_PM_rests cI cZ a_p0 a_cabman z_text z_layer z_readLayer z_readCabman z_page z_trial z_book z_kept z_isKept z_seenCabman z_seenFinger z_seenOff z_seenCame z_value z_shows 0 v_textSize v_place v_cabmen v_readCabmen v_acts v_seen v_seed v_bestCleaning v_bestLayers v_bestMany v_underMany v_underLeast r11.1 r11.2 v_cabman)) (c_PM_findRests l D cI cZ a_p0 a_cabman z_text z_layer z_readLayer z_readCabman z_page z_trial z_book z_kept z_isKept z_seenCabman z_seenFinger z_seenOff z_seenCame z_value z_shows i1 i2 0 v_textSize v_place v_cabmen v_readCabmen v_acts v_seen v_seed v_bestCleaning v_bestLayers v_bestMany v_underMany v_underLeast v_restMany v_restFirst v_cabman r11 h12) hC hA hP hD hS hl.1 cw_PM_220 0 rfl rfl rfl ⟨Nat.le_of_ble_eq_true rfl, Nat.le_of_ble_eq_true rfl⟩ rfl rfl (Nat.le_of_ble_eq_true rfl) d_PM_rests_44 ⟨Nat.zero_le _, Nat.zero_le _⟩ [0, 1] [] [0, 1] (by decide) (Cut_mk rfl rfl (by decide) (by decide) (by decide) rfl) (fun H locs hP hD hS => ?_)
            refine lv_iload_n hx hb d_PM_rests_47 rfl (lv_at hl 3 rfl) ?_
            refine lv_if_ne (tgt := 58) hx hb d_PM_rests_48 (by decide) (fun c13 => ?_) (fun c13 => ?_)
            · have hf := o_neg c13 hf
              refine lv_aload_n hx hb d_PM_rests_58 rfl (lv_at hl 0 rfl) ?_
              refine gf_PM_213 hC hP 0 rfl rfl d_PM_rests_59 ?_
              exact B_62 r11.2 0 r11.1 r11.2 _ _ _ hP hD hS (lv_sub hl [] rfl) hf
            · have hf := o_pos c13 hf
              refine lv_aload_n hx hb d_PM_rests_51 rfl (lv_at hl 0 rfl) ?_
              refine gf_PM_210 hC hP 0 rfl rfl d_PM_rests_52 ?_
              refine lv_goto (tgt := 62) hx hb d_PM_rests_55 (by decide) ?_
              exact B_62 r11.1 0 r11.1 r11.2 _ _ _ hP hD hS (lv_sub hl [] rfl) hf
          · have hf := o_pos c10 hf
            exact B_38 0 v_restMany v_restFirst _ _ _ hP hD hS (lv_sub hl [] rfl) hf
      · have hf := o_neg c6 hf
        exact B_21 0 v_restMany v_restFirst _ _ _ hP hD hS (lv_sub hl [] rfl) hf
  exact E _ _ hP hS
set_option maxHeartbeats 4000000 in
set_option maxRecDepth 100000 in
theorem c_PM_wet (l : Launch) (D : va_G) (cI cZ : ClassId) (a_p0 a_layer a_cabman a_page a_shows z_text z_readLayer z_readCabman z_trial z_book z_kept z_isKept z_seenCabman z_seenFinger z_seenOff z_seenCame z_value : Nat) (i1 : Int32) (i2 : Int32) (i3 : Int32) (v_thrown : Int32) (v_textSize : Int32) (v_place : Int32) (v_cabmen : Int32) (v_readCabmen : Int32) (v_acts : Int32) (v_seen : Int32) (v_seed : Int64) (v_bestCleaning : Int32) (v_bestLayers : Int32) (v_bestMany : Int32) (v_underMany : Int32) (v_underLeast : Int32) (v_restMany : Int32) (v_restFirst : Int32) (v_layer : Nat → Int32) (v_cabman : Nat → Int32) (v_page : Nat → Int32) (v_shows : Nat → Int32) (res : Int32 × Int32 × (Nat → Int32)) (hf : f_PM_wet i1 i2 i3 v_cabmen v_layer v_cabman v_page v_thrown v_shows = some res) : CtI l y_PM_wet b_PM_wet 8 (some .int) 3 D cI cZ [.ref a_p0, .int i1, .int i2, .int i3] (cs_PM_wet cI cZ a_p0 a_layer a_cabman a_page a_shows z_text z_readLayer z_readCabman z_trial z_book z_kept z_isKept z_seenCabman z_seenFinger z_seenOff z_seenCame z_value v_thrown v_textSize v_place v_cabmen v_readCabmen v_acts v_seen v_seed v_bestCleaning v_bestLayers v_bestMany v_underMany v_underLeast v_restMany v_restFirst v_layer v_cabman v_page v_shows) res.1 (cs_PM_wet cI cZ a_p0 a_layer a_cabman a_page a_shows z_text z_readLayer z_readCabman z_trial z_book z_kept z_isKept z_seenCabman z_seenFinger z_seenOff z_seenCame z_value res.2.1 v_textSize v_place v_cabmen v_readCabmen v_acts v_seen v_seed v_bestCleaning v_bestLayers v_bestMany v_underMany v_underLeast v_restMany v_restFirst v_layer v_cabman v_page res.2.2) := by
  refine CtI_mk (by decide) (Nat.le_of_ble_eq_true rfl) ?_
  intro p e s m args below meth c A Q hC hA hP hD RET ls hl
  have hC : Cx p s m args meth c b_PM_wet 8 R_PM D cI cZ := hC
  have hl : lv_has ls 8 [(0, .ref a_p0), (1, .int i1), (2, .int i2), (3, .int i3)] := hl
  obtain ⟨hx, hb, hml, hown, hts, hlk, hKK⟩ := id hC
  have hS : va_S A s.heap s.heap [] := va_S.rf
  have B_29 : ∀  (v_thrown : Int32) (v_shows : Nat → Int32) (H : Heap) (locs : List Loc) (ls : Array Slot), va_P D classes (cs_PM_wet cI cZ a_p0 a_layer a_cabman a_page a_shows z_text z_readLayer z_readCabman z_trial z_book z_kept z_isKept z_seenCabman z_seenFinger z_seenOff z_seenCame z_value v_thrown v_textSize v_place v_cabmen v_readCabmen v_acts v_seen v_seed v_bestCleaning v_bestLayers v_bestMany v_underMany v_underLeast v_restMany v_restFirst v_layer v_cabman v_page v_shows) H → va_D A (cs_PM_wet cI cZ a_p0 a_layer a_cabman a_page a_shows z_text z_readLayer z_readCabman z_trial z_book z_kept z_isKept z_seenCabman z_seenFinger z_seenOff z_seenCame z_value v_thrown v_textSize v_place v_cabmen v_readCabmen v_acts v_seen v_seed v_bestCleaning v_bestLayers v_bestMany v_underMany v_underLeast v_restMany v_restFirst v_layer v_cabman v_page v_shows) → va_S A s.heap H locs → lv_has ls 8 [] → f_PM_wet_29  v_cabmen v_layer v_cabman v_page v_thrown v_shows = some res → W p l e (rm_ 3 (40 * 3)) s m args below meth c H locs 0 0 Q (F0 m 29 ls []) := by
    intro  v_thrown v_shows H locs ls hP hD hS hl hf
    unfold f_PM_wet_29 at hf
    refine lv_bipush (v := (-2)) hx hb d_PM_wet_29 (by decide) ?_
    have hr := Option.some.inj hf
    exact RET _ _ _ _ _ _ rfl (congrArg (fun r : Int32 × Int32 × (Nat → Int32) => r.1) hr) (congrArg (fun r : Int32 × Int32 × (Nat → Int32) => (cs_PM_wet cI cZ a_p0 a_layer a_cabman a_page a_shows z_text z_readLayer z_readCabman z_trial z_book z_kept z_isKept z_seenCabman z_seenFinger z_seenOff z_seenCame z_value r.2.1 v_textSize v_place v_cabmen v_readCabmen v_acts v_seen v_seed v_bestCleaning v_bestLayers v_bestMany v_underMany v_underLeast v_restMany v_restFirst v_layer v_cabman v_page r.2.2)) hr) hP hD hS d_PM_wet_31
  have B_104 : ∀ (back_57 : Int32 → Int32 → Int32 → Int32 → Int32 → Int32 → Int32 → (Nat → Int32) → Option (Int32 × Int32 × (Nat → Int32))) (K_57 : ∀ (x1 : Int32) (x2 : Int32) (x3 : Int32) (x4 : Int32) (x5 : Int32) (x6 : Int32) (v_thrown : Int32) (v_shows : Nat → Int32) (H : Heap) (locs : List Loc) (ls : Array Slot), va_P D classes (cs_PM_wet cI cZ a_p0 a_layer a_cabman a_page a_shows z_text z_readLayer z_readCabman z_trial z_book z_kept z_isKept z_seenCabman z_seenFinger z_seenOff z_seenCame z_value v_thrown v_textSize v_place v_cabmen v_readCabmen v_acts v_seen v_seed v_bestCleaning v_bestLayers v_bestMany v_underMany v_underLeast v_restMany v_restFirst v_layer v_cabman v_page v_shows) H → va_D A (cs_PM_wet cI cZ a_p0 a_layer a_cabman a_page a_shows z_text z_readLayer z_readCabman z_trial z_book z_kept z_isKept z_seenCabman z_seenFinger z_seenOff z_seenCame z_value v_thrown v_textSize v_place v_cabmen v_readCabmen v_acts v_seen v_seed v_bestCleaning v_bestLayers v_bestMany v_underMany v_underLeast v_restMany v_restFirst v_layer v_cabman v_page v_shows) → va_S A s.heap H locs → lv_has ls 8 [(1, .int x1), (2, .int x2), (3, .int x3), (4, .int x4), (5, .int x5), (6, .int x6)] → back_57 x1 x2 x3 x4 x5 x6 v_thrown v_shows = some res → W p l e (rm_ 3 (40 * 3)) s m args below meth c H locs 0 0 Q (F0 m 57 ls [])) (x1 : Int32) (x2 : Int32) (x3 : Int32) (x4 : Int32) (x6 : Int32) (w0 : Int32) (w1 : Int32) (v_thrown : Int32) (v_shows : Nat → Int32) (H : Heap) (locs : List Loc) (ls : Array Slot), va_P D classes (cs_PM_wet cI cZ a_p0 a_layer a_cabman a_page a_shows z_text z_readLayer z_readCabman z_trial z_book z_kept z_isKept z_seenCabman z_seenFinger z_seenOff z_seenCame z_value v_thrown v_textSize v_place v_cabmen v_readCabmen v_acts v_seen v_seed v_bestCleaning v_bestLayers v_bestMany v_underMany v_underLeast v_restMany v_restFirst v_layer v_cabman v_page v_shows) H → va_D A (cs_PM_wet cI cZ a_p0 a_layer a_cabman a_page a_shows z_text z_readLayer z_readCabman z_trial z_book z_kept z_isKept z_seenCabman z_seenFinger z_seenOff z_seenCame z_value v_thrown v_textSize v_place v_cabmen v_readCabmen v_acts v_seen v_seed v_bestCleaning v_bestLayers v_bestMany v_underMany v_underLeast v_restMany v_restFirst v_layer v_cabman v_page v_shows) → va_S A s.heap H locs → lv_has ls 8 [(1, .int x1), (2, .int x2), (3, .int x3), (4, .int x4), (6, .int x6)] → f_PM_wet_104 back_57 v_cabmen v_layer v_cabman v_page x1 x2 x3 x4 x6 w0 w1 v_thrown v_shows = some res → W p l e (rm_ 3 (40 * 3)) s m args below meth c H locs 0 0 Q (F0 m 104 ls [.int w1, .int w0]) := by
    intro back_57 K_57 x1 x2 x3 x4 x6 w0 w1 v_thrown v_shows H locs ls hP hD hS hl hf
    unfold f_PM_wet_104 at hf
    refine lv_iadd hx hb d_PM_wet_104 ?_
    refine lv_istore (lv' := [(5, .int (w0 + w1)), (1, .int x1), (2, .int x2), (3, .int x3), (4, .int x4), (6, .int x6)]) hx hb d_PM_wet_105 hl (by decide) rfl (fun ls hl => ?_)
    refine lv_iinc (v := x6 + 1) (lv' := [(6, .int (x6 + 1)), (5, .int (w0 + w1)), (1, .int x1), (2, .int x2), (3, .int x3), (4, .int x4)]) hx hb d_PM_wet_107 hl (k := 5) rfl (rfl) (by decide) rfl (fun ls hl => ?_)
    refine lv_goto (tgt := 57) hx hb d_PM_wet_110 (by decide) ?_
    exact K_57 x1 x2 x3 x4 (w0 + w1) (x6 + 1) v_thrown v_shows _ _ _ hP hD hS (lv_sub hl [2, 3, 4, 5, 1, 0] rfl) hf
  have B_57 : ∀  (n : Nat) (x1 : Int32) (x2 : Int32) (x3 : Int32) (x4 : Int32) (x5 : Int32) (x6 : Int32) (v_thrown : Int32) (v_shows : Nat → Int32) (H : Heap) (locs : List Loc) (ls : Array Slot), va_P D classes (cs_PM_wet cI cZ a_p0 a_layer a_cabman a_page a_shows z_text z_readLayer z_readCabman z_trial z_book z_kept z_isKept z_seenCabman z_seenFinger z_seenOff z_seenCame z_value v_thrown v_textSize v_place v_cabmen v_readCabmen v_acts v_seen v_seed v_bestCleaning v_bestLayers v_bestMany v_underMany v_underLeast v_restMany v_restFirst v_layer v_cabman v_page v_shows) H → va_D A (cs_PM_wet cI cZ a_p0 a_layer a_cabman a_page a_shows z_text z_readLayer z_readCabman z_trial z_book z_kept z_isKept z_seenCabman z_seenFinger z_seenOff z_seenCame z_value v_thrown v_textSize v_place v_cabmen v_readCabmen v_acts v_seen v_seed v_bestCleaning v_bestLayers v_bestMany v_underMany v_underLeast v_restMany v_restFirst v_layer v_cabman v_page v_shows) → va_S A s.heap H locs → lv_has ls 8 [(1, .int x1), (2, .int x2), (3, .int x3), (4, .int x4), (5, .int x5), (6, .int x6)] → f_PM_wet_57  v_cabmen v_layer v_cabman v_page n x1 x2 x3 x4 x5 x6 v_thrown v_shows = some res → W p l e (rm_ 3 (40 * 3)) s m args below meth c H locs 0 0 Q (F0 m 57 ls []) := by
    intro  n
    induction n with
    | zero => intro x1 x2 x3 x4 x5 x6 v_thrown v_shows H locs ls hP hD hS hl hf; exact nomatch hf
    | succ n ih =>
      intro x1 x2 x3 x4 x5 x6 v_thrown v_shows H locs ls hP hD hS hl hf
      have hf : f_PM_wet_57_b  (f_PM_wet_57  v_cabmen v_layer v_cabman v_page n) v_cabmen v_layer v_cabman v_page x1 x2 x3 x4 x5 x6 v_thrown v_shows = some res := hf
      generalize f_PM_wet_57  v_cabmen v_layer v_cabman v_page n = back_57 at ih hf
      have K_57 := ih
      unfold f_PM_wet_57_b at hf
      refine lv_iload hx hb d_PM_wet_57 (lv_at hl 5 rfl) ?_
      refine lv_iconst (v := 1) hx hb d_PM_wet_59 (by decide) ?_
      refine lv_iload hx hb d_PM_wet_60 (lv_at hl 3 rfl) ?_
      refine lv_ishl hx hb d_PM_wet_62 ?_
      refine lv_icmp_ge (tgt := 113) hx hb d_PM_wet_63 (by decide) (fun c1 => ?_) (fun c1 => ?_)
      · have hf := o_pos c1 hf
        refine lv_iload hx hb d_PM_wet_113 (lv_at hl 4 rfl) ?_
        refine lv_bipush (v := 10) hx hb d_PM_wet_115 (by decide) ?_
        refine lv_iload hx hb d_PM_wet_117 (lv_at hl 3 rfl) ?_
        obtain ⟨r2, h3, hf⟩ := o_bind hf
        refine cSi0 (rest := [.int x5]) (c_PM_power l D cI cZ 10 x4 r2 h3) hC hA hP hD hS hl.1 cw_PM_150 ⟨Nat.le_of_ble_eq_true rfl, Nat.le_of_ble_eq_true rfl⟩ rfl rfl (Nat.le_of_ble_eq_true rfl) d_PM_wet_119 ⟨Nat.zero_le _, Nat.zero_le _⟩ (fun H locs hP hS => ?_)
        refine lv_iload_n hx hb d_PM_wet_122 rfl (lv_at hl 2 rfl) ?_
        obtain ⟨r4, h5, hf⟩ := o_bind hf
        refine cSi0 (rest := []) (c_PM_fraction l D cI cZ x5 r2 x3 r4 h5) hC hA hP hD hS hl.1 cw_PM_197 ⟨Nat.le_of_ble_eq_true rfl, Nat.le_of_ble_eq_true rfl⟩ rfl rfl (Nat.le_of_ble_eq_true rfl) d_PM_wet_123 ⟨Nat.zero_le _, Nat.zero_le _⟩ (fun H locs hP hS => ?_)
        have hr := Option.some.inj hf
        exact RET _ _ _ _ _ _ rfl (congrArg (fun r : Int32 × Int32 × (Nat → Int32) => r.1) hr) (congrArg (fun r : Int32 × Int32 × (Nat → Int32) => (cs_PM_wet cI cZ a_p0 a_layer a_cabman a_page a_shows z_text z_readLayer z_readCabman z_trial z_book z_kept z_isKept z_seenCabman z_seenFinger z_seenOff z_seenCame z_value r.2.1 v_textSize v_place v_cabmen v_readCabmen v_acts v_seen v_seed v_bestCleaning v_bestLayers v_bestMany v_underMany v_underLeast v_restMany v_restFirst v_layer v_cabman v_page r.2.2)) hr) hP hD hS d_PM_wet_126
      · have hf := o_neg c1 hf
        refine lv_iload hx hb d_PM_wet_66 (lv_at hl 5 rfl) ?_
        obtain ⟨r6, h7, hf⟩ := o_bind hf
        refine cSi0 (rest := []) (c_PM_many l D cI cZ x6 r6 h7) hC hA hP hD hS hl.1 cw_PM_162 ⟨Nat.le_of_ble_eq_true rfl, Nat.le_of_ble_eq_true rfl⟩ rfl rfl (Nat.le_of_ble_eq_true rfl) d_PM_wet_68 ⟨Nat.zero_le _, Nat.zero_le _⟩ (fun H locs hP hS => ?_)
        refine lv_istore (lv' := [(7, .int r6), (1, .int x1), (2, .int x2), (3, .int x3), (4, .int x4), (5, .int x5), (6, .int x6)]) hx hb d_PM_wet_71 hl (by decide) rfl (fun ls hl => ?_)
        refine lv_iload hx hb d_PM_wet_73 (lv_at hl 5 rfl) ?_
        refine lv_iload hx hb d_PM_wet_75 (lv_at hl 0 rfl) ?_
        refine lv_iload_n hx hb d_PM_wet_77 rfl (lv_at hl 1 rfl) ?_
        refine lv_icmp_lt (tgt := 103) hx hb d_PM_wet_78 (by decide) (fun c8 => ?_) (fun c8 => ?_)
        · have hf := o_pos c8 hf
          refine lv_iconst (v := 0) hx hb d_PM_wet_103 (by decide) ?_
          exact B_104 back_57 K_57 x1 x2 x3 x4 x6 x5 0 v_thrown v_shows _ _ _ hP hD hS (lv_sub hl [1, 2, 3, 4, 6] rfl) hf
        · have hf := o_neg c8 hf
          refine lv_iload_n hx hb d_PM_wet_81 rfl (lv_at hl 2 rfl) ?_
          refine lv_iload hx hb d_PM_wet_82 (lv_at hl 0 rfl) ?_
          obtain ⟨r9, h10, hf⟩ := o_bind hf
          refine cSi0 (rest := [.int x5]) (c_PM_power l D cI cZ x2 r6 r9 h10) hC hA hP hD hS hl.1 cw_PM_150 ⟨Nat.le_of_ble_eq_true rfl, Nat.le_of_ble_eq_true rfl⟩ rfl rfl (Nat.le_of_ble_eq_true rfl) d_PM_wet_84 ⟨Nat.zero_le _, Nat.zero_le _⟩ (fun H locs hP hS => ?_)
          refine lv_bipush (v := 10) hx hb d_PM_wet_87 (by decide) ?_
          refine lv_iload_n hx hb d_PM_wet_89 rfl (lv_at hl 2 rfl) ?_
          refine lv_isub hx hb d_PM_wet_90 ?_
          refine lv_iload hx hb d_PM_wet_91 (lv_at hl 4 rfl) ?_
          refine lv_iload hx hb d_PM_wet_93 (lv_at hl 0 rfl) ?_
          refine lv_isub hx hb d_PM_wet_95 ?_
          obtain ⟨r11, h12, hf⟩ := o_bind hf
          refine cSi0 (rest := [.int r9, .int x5]) (c_PM_power l D cI cZ (10 - x2) (x4 - r6) r11 h12) hC hA hP hD hS hl.1 cw_PM_150 ⟨Nat.le_of_ble_eq_true rfl, Nat.le_of_ble_eq_true rfl⟩ rfl rfl (Nat.le_of_ble_eq_true rfl) d_PM_wet_96 ⟨Nat.zero_le _, Nat.zero_le _⟩ (fun H locs hP hS => ?_)
          refine lv_imul hx hb d_PM_wet_99 ?_
          refine lv_goto (tgt := 104) hx hb d_PM_wet_100 (by decide) ?_
          exact B_104 back_57 K_57 x1 x2 x3 x4 x6 x5 (r9 * r11) v_thrown v_shows _ _ _ hP hD hS (lv_sub hl [1, 2, 3, 4, 6] rfl) hf
  unfold f_PM_wet at hf
  have E : ∀ (H : Heap) (locs : List Loc), va_P D classes (cs_PM_wet cI cZ a_p0 a_layer a_cabman a_page a_shows z_text z_readLayer z_readCabman z_trial z_book z_kept z_isKept z_seenCabman z_seenFinger z_seenOff z_seenCame z_value v_thrown v_textSize v_place v_cabmen v_readCabmen v_acts v_seen v_seed v_bestCleaning v_bestLayers v_bestMany v_underMany v_underLeast v_restMany v_restFirst v_layer v_cabman v_page v_shows) H → va_S A s.heap H locs → W p l e (rm_ 3 (40 * 3)) s m args below meth c H locs 0 0 Q (F0 m 0 ls []) := by
    intro H locs hP hS
    refine lv_aload_n hx hb d_PM_wet_0 rfl (lv_at hl 0 rfl) ?_
    refine lv_iconst (v := 0) hx hb d_PM_wet_1 (by decide) ?_
    refine pf_PM_59 hC hP hD hS 0 rfl (Nat.le_of_ble_eq_true rfl) d_PM_wet_2 (fun H locs hP hD hS => ?_)
    have hP : va_P D classes (cs_PM_wet cI cZ a_p0 a_layer a_cabman a_page a_shows z_text z_readLayer z_readCabman z_trial z_book z_kept z_isKept z_seenCabman z_seenFinger z_seenOff z_seenCame z_value 0 v_textSize v_place v_cabmen v_readCabmen v_acts v_seen v_seed v_bestCleaning v_bestLayers v_bestMany v_underMany v_underLeast v_restMany v_restFirst v_layer v_cabman v_page v_shows) H := hP
    have hD : va_D A (cs_PM_wet cI cZ a_p0 a_layer a_cabman a_page a_shows z_text z_readLayer z_readCabman z_trial z_book z_kept z_isKept z_seenCabman z_seenFinger z_seenOff z_seenCame z_value 0 v_textSize v_place v_cabmen v_readCabmen v_acts v_seen v_seed v_bestCleaning v_bestLayers v_bestMany v_underMany v_underLeast v_restMany v_restFirst v_layer v_cabman v_page v_shows) := hD
    refine lv_iload_n hx hb d_PM_wet_5 rfl (lv_at hl 1 rfl) ?_
    refine lv_i2l (v := Int32.toInt64 i1) hx hb d_PM_wet_6 rfl ?_
    refine lv_lconst (v := 0) hx hb d_PM_wet_7 (by decide) ?_
    refine lv_ldc2 (v := 5) hx hb hown (hts _ g683) d_PM_wet_8 ?_
    obtain ⟨r1, h2, hf⟩ := o_bind hf
    refine cSi0 (rest := []) (c_PM_in l D cI cZ (Int32.toInt64 i1) 0 5 r1 h2) hC hA hP hD hS hl.1 cw_PM_66 ⟨Nat.le_of_ble_eq_true rfl, Nat.le_of_ble_eq_true rfl⟩ rfl rfl (Nat.le_of_ble_eq_true rfl) d_PM_wet_11 ⟨Nat.zero_le _, Nat.zero_le _⟩ (fun H locs hP hS => ?_)
    refine lv_if_eq (tgt := 29) hx hb d_PM_wet_14 (by decide) (fun c3 => ?_) (fun c3 => ?_)
    · have hf := o_pos c3 hf
      exact B_29 0 v_shows _ _ _ hP hD hS (lv_sub hl [] rfl) hf
    · have hf := o_neg c3 hf
      refine lv_iload_n hx hb d_PM_wet_17 rfl (lv_at hl 2 rfl) ?_
      refine lv_i2l (v := Int32.toInt64 i2) hx hb d_PM_wet_18 rfl ?_
      refine lv_lconst (v := 0) hx hb d_PM_wet_19 (by decide) ?_
      refine lv_ldc2 (v := 10) hx hb hown (hts _ g642) d_PM_wet_20 ?_
      obtain ⟨r4, h5, hf⟩ := o_bind hf
      refine cSi0 (rest := []) (c_PM_in l D cI cZ (Int32.toInt64 i2) 0 10 r4 h5) hC hA hP hD hS hl.1 cw_PM_66 ⟨Nat.le_of_ble_eq_true rfl, Nat.le_of_ble_eq_true rfl⟩ rfl rfl (Nat.le_of_ble_eq_true rfl) d_PM_wet_23 ⟨Nat.zero_le _, Nat.zero_le _⟩ (fun H locs hP hS => ?_)
      refine lv_if_ne (tgt := 32) hx hb d_PM_wet_26 (by decide) (fun c6 => ?_) (fun c6 => ?_)
      · have hf := o_neg c6 hf
        refine lv_aload_n hx hb d_PM_wet_32 rfl (lv_at hl 0 rfl) ?_
        refine lv_aload_n hx hb d_PM_wet_33 rfl (lv_at hl 0 rfl) ?_
        refine gf_PM_25 hC hP 0 rfl rfl d_PM_wet_34 ?_
        obtain ⟨r7, h8, hf⟩ := o_bind hf
        refine cVv (rest := []) (wr := [(a_cabman, .inl (cI, 30, .inl v_cabman))]) (wn := (cs_PM_wet cI cZ a_p0 a_layer a_cabman a_page a_shows z_text z_readLayer z_readCabman z_trial z_book z_kept z_isKept z_seenCabman z_seenFinger z_seenOff z_seenCame z_value 0 v_textSize v_place v_cabmen v_readCabmen v_acts v_seen v_seed v_bestCleaning v_bestLayers v_bestMany v_underMany v_underLeast v_restMany v_restFirst v_layer v_cabman v_page r7)) (c_PM_layShown l D cI cZ a_p0 a_layer a_shows a_page z_text a_cabman z_readLayer z_readCabman a_page z_trial z_book z_kept z_isKept z_seenCabman z_seenFinger z_seenOff z_seenCame z_value 0 v_textSize v_place v_cabmen v_readCabmen v_acts v_seen v_seed v_bestCleaning v_bestLayers v_bestMany v_underMany v_underLeast v_restMany v_restFirst v_layer v_shows v_page r7 h8) hC hA hP hD hS hl.1 cw_PM_112 0 rfl rfl rfl ⟨Nat.le_of_ble_eq_true rfl, Nat.le_of_ble_eq_true rfl⟩ rfl rfl (Nat.le_of_ble_eq_true rfl) d_PM_wet_37 ⟨Nat.zero_le _, Nat.zero_le _⟩ [0, 1, 4, 3] [2] [1, 2, 0, 4, 3] (by decide) (Cut_mk rfl rfl (by decide) (by decide) (by decide) rfl) (fun H locs hP hD hS => ?_)
        refine lv_aload_n hx hb d_PM_wet_40 rfl (lv_at hl 0 rfl) ?_
        refine lv_bipush (v := 15) hx hb d_PM_wet_41 (by decide) ?_
        obtain ⟨r9, h10, hf⟩ := o_bind hf
        refine cVi (rest := []) (wr := [(a_layer, .inl (cI, 12, .inl v_layer)), (a_page, .inl (cI, 16, .inl v_page))]) (wn := (cs_PM_wet cI cZ a_p0 a_layer a_cabman a_page a_shows z_text z_readLayer z_readCabman z_trial z_book z_kept z_isKept z_seenCabman z_seenFinger z_seenOff z_seenCame z_value 0 v_textSize v_place v_cabmen v_readCabmen v_acts v_seen v_seed v_bestCleaning v_bestLayers v_bestMany v_underMany v_underLeast v_restMany v_restFirst v_layer v_cabman v_page r7)) (c_PM_calledOf l D cI cZ a_p0 a_cabman a_shows z_text a_layer z_readLayer z_readCabman a_page z_trial z_book z_kept z_isKept z_seenCabman z_seenFinger z_seenOff z_seenCame z_value 15 0 v_textSize v_place v_cabmen v_readCabmen v_acts v_seen v_seed v_bestCleaning v_bestLayers v_bestMany v_underMany v_underLeast v_restMany v_restFirst v_cabman r7 r9 h10) hC hA hP hD hS hl.1 cw_PM_120 0 rfl rfl rfl ⟨Nat.le_of_ble_eq_true rfl, Nat.le_of_ble_eq_true rfl⟩ rfl rfl (Nat.le_of_ble_eq_true rfl) d_PM_wet_43 ⟨Nat.zero_le _, Nat.zero_le _⟩ [0, 2, 4] [1, 3] [2, 0, 3, 1, 4] (by decide) (Cut_mk rfl rfl (by decide) (by decide) (by decide) rfl) (fun H locs hP hD hS => ?_)
        obtain ⟨r11, h12, hf⟩ := o_bind hf
        refine cSi0 (rest := []) (c_PM_many l D cI cZ r9 r11 h12) hC hA hP hD hS hl.1 cw_PM_162 ⟨Nat.le_of_ble_eq_true rfl, Nat.le_of_ble_eq_true rfl⟩ rfl rfl (Nat.le_of_ble_eq_true rfl) d_PM_wet_46 ⟨Nat.zero_le _, Nat.zero_le _⟩ (fun H locs hP hS => ?_)
        refine lv_istore (lv' := [(4, .int r11), (0, .ref a_p0), (1, .int i1), (2, .int i2), (3, .int i3)]) hx hb d_PM_wet_49 hl (by decide) rfl (fun ls hl => ?_)
        refine lv_iconst (v := 0) hx hb d_PM_wet_51 (by decide) ?_
        refine lv_istore (lv' := [(5, .int 0), (4, .int r11), (0, .ref a_p0), (1, .int i1), (2, .int i2), (3, .int i3)]) hx hb d_PM_wet_52 hl (by decide) rfl (fun ls hl => ?_)
        refine lv_iconst (v := 0) hx hb d_PM_wet_54 (by decide) ?_
        refine lv_istore (lv' := [(6, .int 0), (5, .int 0), (4, .int r11), (0, .ref a_p0), (1, .int i1), (2, .int i2), (3, .int i3)]) hx hb d_PM_wet_55 hl (by decide) rfl (fun ls hl => ?_)
        exact B_57 300 i1 i2 i3 r11 0 0 0 r7 _ _ _ hP hD hS (lv_sub hl [4, 5, 6, 2, 1, 0] rfl) hf
      · have hf := o_pos c6 hf
        exact B_29 0 v_shows _ _ _ hP hD hS (lv_sub hl [] rfl) hf
  exact E _ _ hP hS
set_option maxHeartbeats 4000000 in
set_option maxRecDepth 100000 in
theorem c_PM_seed (l : Launch) (D : va_G) (cI cZ : ClassId) (a_p0 z_text z_layer z_cabman z_readLayer z_readCabman z_page z_trial z_book z_kept z_isKept z_seenCabman z_seenFinger z_seenOff z_seenCame z_value z_shows : Nat) (i1 : Int64) (v_thrown : Int32) (v_textSize : Int32) (v_place : Int32) (v_cabmen : Int32) (v_readCabmen : Int32) (v_acts : Int32) (v_seen : Int32) (v_seed : Int64) (v_bestCleaning : Int32) (v_bestLayers : Int32) (v_bestMany : Int32) (v_underMany : Int32) (v_underLeast : Int32) (v_restMany : Int32) (v_restFirst : Int32) (res : Int64 × Int32 × Int64) (hf : f_PM_seed i1 v_thrown v_seed = some res) : CtL l y_PM_seed b_PM_seed 5 (some .long) 0 D cI cZ [.ref a_p0, .long i1] (cs_PM_seed cI cZ a_p0 z_text z_layer z_cabman z_readLayer z_readCabman z_page z_trial z_book z_kept z_isKept z_seenCabman z_seenFinger z_seenOff z_seenCame z_value z_shows v_thrown v_textSize v_place v_cabmen v_readCabmen v_acts v_seen v_seed v_bestCleaning v_bestLayers v_bestMany v_underMany v_underLeast v_restMany v_restFirst) res.1 (cs_PM_seed cI cZ a_p0 z_text z_layer z_cabman z_readLayer z_readCabman z_page z_trial z_book z_kept z_isKept z_seenCabman z_seenFinger z_seenOff z_seenCame z_value z_shows res.2.1 v_textSize v_place v_cabmen v_readCabmen v_acts v_seen res.2.2 v_bestCleaning v_bestLayers v_bestMany v_underMany v_underLeast v_restMany v_restFirst) := by
  refine CtL_mk (by decide) (Nat.le_of_ble_eq_true rfl) ?_
  intro p e s m args below meth c A Q hC hA hP hD RET ls hl
  have hC : Cx p s m args meth c b_PM_seed 5 R_PM D cI cZ := hC
  have hl : lv_has ls 5 [(0, .ref a_p0), (1, .long i1)] := hl
  obtain ⟨hx, hb, hml, hown, hts, hlk, hKK⟩ := id hC
  have hS : va_S A s.heap s.heap [] := va_S.rf
  unfold f_PM_seed at hf
  have E : ∀ (H : Heap) (locs : List Loc), va_P D classes (cs_PM_seed cI cZ a_p0 z_text z_layer z_cabman z_readLayer z_readCabman z_page z_trial z_book z_kept z_isKept z_seenCabman z_seenFinger z_seenOff z_seenCame z_value z_shows v_thrown v_textSize v_place v_cabmen v_readCabmen v_acts v_seen v_seed v_bestCleaning v_bestLayers v_bestMany v_underMany v_underLeast v_restMany v_restFirst) H → va_S A s.heap H locs → W p l e (rm_ 0 (40 * 0)) s m args below meth c H locs 0 0 Q (F0 m 0 ls []) := by
    intro H locs hP hS
    refine lv_aload_n hx hb d_PM_seed_0 rfl (lv_at hl 0 rfl) ?_
    refine lv_iconst (v := 0) hx hb d_PM_seed_1 (by decide) ?_
    refine pf_PM_59 hC hP hD hS 0 rfl (Nat.le_of_ble_eq_true rfl) d_PM_seed_2 (fun H locs hP hD hS => ?_)
    have hP : va_P D classes (cs_PM_seed cI cZ a_p0 z_text z_layer z_cabman z_readLayer z_readCabman z_page z_trial z_book z_kept z_isKept z_seenCabman z_seenFinger z_seenOff z_seenCame z_value z_shows 0 v_textSize v_place v_cabmen v_readCabmen v_acts v_seen v_seed v_bestCleaning v_bestLayers v_bestMany v_underMany v_underLeast v_restMany v_restFirst) H := hP
    have hD : va_D A (cs_PM_seed cI cZ a_p0 z_text z_layer z_cabman z_readLayer z_readCabman z_page z_trial z_book z_kept z_isKept z_seenCabman z_seenFinger z_seenOff z_seenCame z_value z_shows 0 v_textSize v_place v_cabmen v_readCabmen v_acts v_seen v_seed v_bestCleaning v_bestLayers v_bestMany v_underMany v_underLeast v_restMany v_restFirst) := hD
    refine lv_aload_n hx hb d_PM_seed_5 rfl (lv_at hl 0 rfl) ?_
    refine gf_PM_224 hC hP 0 rfl rfl d_PM_seed_6 ?_
    refine lv_lstore_n (lv' := [(3, .long v_seed), (0, .ref a_p0), (1, .long i1)]) hx hb d_PM_seed_9 rfl hl (by decide) rfl (fun ls hl => ?_)
    refine lv_aload_n hx hb d_PM_seed_10 rfl (lv_at hl 1 rfl) ?_
    refine lv_lload_n hx hb d_PM_seed_11 rfl (lv_at hl 2 rfl) ?_
    refine pf_PM_224 hC hP hD hS 0 rfl (Nat.le_of_ble_eq_true rfl) d_PM_seed_12 (fun H locs hP hD hS => ?_)
    have hP : va_P D classes (cs_PM_seed cI cZ a_p0 z_text z_layer z_cabman z_readLayer z_readCabman z_page z_trial z_book z_kept z_isKept z_seenCabman z_seenFinger z_seenOff z_seenCame z_value z_shows 0 v_textSize v_place v_cabmen v_readCabmen v_acts v_seen i1 v_bestCleaning v_bestLayers v_bestMany v_underMany v_underLeast v_restMany v_restFirst) H := hP
    have hD : va_D A (cs_PM_seed cI cZ a_p0 z_text z_layer z_cabman z_readLayer z_readCabman z_page z_trial z_book z_kept z_isKept z_seenCabman z_seenFinger z_seenOff z_seenCame z_value z_shows 0 v_textSize v_place v_cabmen v_readCabmen v_acts v_seen i1 v_bestCleaning v_bestLayers v_bestMany v_underMany v_underLeast v_restMany v_restFirst) := hD
    refine lv_lload_n hx hb d_PM_seed_15 rfl (lv_at hl 0 rfl) ?_
    have hr := Option.some.inj hf
    exact RET _ _ _ _ _ _ (congrArg (fun r : Int64 × Int32 × Int64 => r.1) hr) (congrArg (fun r : Int64 × Int32 × Int64 => (cs_PM_seed cI cZ a_p0 z_text z_layer z_cabman z_readLayer z_readCabman z_page z_trial z_book z_kept z_isKept z_seenCabman z_seenFinger z_seenOff z_seenCame z_value z_shows r.2.1 v_textSize v_place v_cabmen v_readCabmen v_acts v_seen r.2.2 v_bestCleaning v_bestLayers v_bestMany v_underMany v_underLeast v_restMany v_restFirst)) hr) hP hD hS d_PM_seed_16
  exact E _ _ hP hS
set_option maxHeartbeats 4000000 in
set_option maxRecDepth 100000 in
theorem c_PM_years (l : Launch) (D : va_G) (cI cZ : ClassId) (a_p0 a_layer a_cabman a_page a_trial a_shows z_text z_readLayer z_readCabman z_book z_kept z_isKept z_seenCabman z_seenFinger z_seenOff z_seenCame z_value : Nat) (i1 : Int32) (v_thrown : Int32) (v_textSize : Int32) (v_place : Int32) (v_cabmen : Int32) (v_readCabmen : Int32) (v_acts : Int32) (v_seen : Int32) (v_seed : Int64) (v_bestCleaning : Int32) (v_bestLayers : Int32) (v_bestMany : Int32) (v_underMany : Int32) (v_underLeast : Int32) (v_restMany : Int32) (v_restFirst : Int32) (v_layer : Nat → Int32) (v_cabman : Nat → Int32) (v_page : Nat → Int32) (v_trial : Nat → Int32) (v_shows : Nat → Int32) (res : Int32 × Int32 × Int64 × (Nat → Int32) × (Nat → Int32)) (hf : f_PM_years i1 v_cabmen v_layer v_cabman v_page v_thrown v_seed v_trial v_shows = some res) : CtI l y_PM_years b_PM_years 5 (some .int) 5 D cI cZ [.ref a_p0, .int i1] (cs_PM_years cI cZ a_p0 a_layer a_cabman a_page a_trial a_shows z_text z_readLayer z_readCabman z_book z_kept z_isKept z_seenCabman z_seenFinger z_seenOff z_seenCame z_value v_thrown v_textSize v_place v_cabmen v_readCabmen v_acts v_seen v_seed v_bestCleaning v_bestLayers v_bestMany v_underMany v_underLeast v_restMany v_restFirst v_layer v_cabman v_page v_trial v_shows) res.1 (cs_PM_years cI cZ a_p0 a_layer a_cabman a_page a_trial a_shows z_text z_readLayer z_readCabman z_book z_kept z_isKept z_seenCabman z_seenFinger z_seenOff z_seenCame z_value res.2.1 v_textSize v_place v_cabmen v_readCabmen v_acts v_seen res.2.2.1 v_bestCleaning v_bestLayers v_bestMany v_underMany v_underLeast v_restMany v_restFirst v_layer v_cabman v_page res.2.2.2.1 res.2.2.2.2) := by
  refine CtI_mk (by decide) (Nat.le_of_ble_eq_true rfl) ?_
  intro p e s m args below meth c A Q hC hA hP hD RET ls hl
  have hC : Cx p s m args meth c b_PM_years 5 R_PM D cI cZ := hC
  have hl : lv_has ls 5 [(0, .ref a_p0), (1, .int i1)] := hl
  obtain ⟨hx, hb, hml, hown, hts, hlk, hKK⟩ := id hC
  have hS : va_S A s.heap s.heap [] := va_S.rf
  have B_94 : ∀ (back_28 : Int32 → Int32 → Int32 → Int32 → Int64 → (Nat → Int32) → (Nat → Int32) → Option (Int32 × Int32 × Int64 × (Nat → Int32) × (Nat → Int32))) (K_28 : ∀ (x1 : Int32) (x2 : Int32) (x3 : Int32) (v_thrown : Int32) (v_seed : Int64) (v_trial : Nat → Int32) (v_shows : Nat → Int32) (H : Heap) (locs : List Loc) (ls : Array Slot), va_P D classes (cs_PM_years cI cZ a_p0 a_layer a_cabman a_page a_trial a_shows z_text z_readLayer z_readCabman z_book z_kept z_isKept z_seenCabman z_seenFinger z_seenOff z_seenCame z_value v_thrown v_textSize v_place v_cabmen v_readCabmen v_acts v_seen v_seed v_bestCleaning v_bestLayers v_bestMany v_underMany v_underLeast v_restMany v_restFirst v_layer v_cabman v_page v_trial v_shows) H → va_D A (cs_PM_years cI cZ a_p0 a_layer a_cabman a_page a_trial a_shows z_text z_readLayer z_readCabman z_book z_kept z_isKept z_seenCabman z_seenFinger z_seenOff z_seenCame z_value v_thrown v_textSize v_place v_cabmen v_readCabmen v_acts v_seen v_seed v_bestCleaning v_bestLayers v_bestMany v_underMany v_underLeast v_restMany v_restFirst v_layer v_cabman v_page v_trial v_shows) → va_S A s.heap H locs → lv_has ls 5 [(0, .ref a_p0), (1, .int x1), (2, .int x2), (3, .int x3)] → back_28 x1 x2 x3 v_thrown v_seed v_trial v_shows = some res → W p l e (rm_ 5 (40 * 5)) s m args below meth c H locs 0 0 Q (F0 m 28 ls [])) (x1 : Int32) (x2 : Int32) (x3 : Int32) (w1 : Int32) (v_thrown : Int32) (v_seed : Int64) (v_trial : Nat → Int32) (v_shows : Nat → Int32) (H : Heap) (locs : List Loc) (ls : Array Slot), va_P D classes (cs_PM_years cI cZ a_p0 a_layer a_cabman a_page a_trial a_shows z_text z_readLayer z_readCabman z_book z_kept z_isKept z_seenCabman z_seenFinger z_seenOff z_seenCame z_value v_thrown v_textSize v_place v_cabmen v_readCabmen v_acts v_seen v_seed v_bestCleaning v_bestLayers v_bestMany v_underMany v_underLeast v_restMany v_restFirst v_layer v_cabman v_page v_trial v_shows) H → va_D A (cs_PM_years cI cZ a_p0 a_layer a_cabman a_page a_trial a_shows z_text z_readLayer z_readCabman z_book z_kept z_isKept z_seenCabman z_seenFinger z_seenOff z_seenCame z_value v_thrown v_textSize v_place v_cabmen v_readCabmen v_acts v_seen v_seed v_bestCleaning v_bestLayers v_bestMany v_underMany v_underLeast v_restMany v_restFirst v_layer v_cabman v_page v_trial v_shows) → va_S A s.heap H locs → lv_has ls 5 [(0, .ref a_p0), (1, .int x1), (2, .int x2), (3, .int x3)] → f_PM_years_94 back_28 v_cabmen v_layer v_cabman v_page x1 x2 x3 w1 v_thrown v_seed v_trial v_shows = some res → W p l e (rm_ 5 (40 * 5)) s m args below meth c H locs 0 0 Q (F0 m 94 ls [.int w1, .ref a_p0]) := by
    intro back_28 K_28 x1 x2 x3 w1 v_thrown v_seed v_trial v_shows H locs ls hP hD hS hl hf
    unfold f_PM_years_94 at hf
    obtain ⟨r1, h2, hf⟩ := o_bind hf
    refine cVi (rest := []) (wr := [(a_page, .inl (cI, 16, .inl v_page))]) (wn := (cs_PM_years cI cZ a_p0 a_layer a_cabman a_page a_trial a_shows z_text z_readLayer z_readCabman z_book z_kept z_isKept z_seenCabman z_seenFinger z_seenOff z_seenCame z_value v_thrown v_textSize v_place v_cabmen v_readCabmen v_acts v_seen v_seed v_bestCleaning v_bestLayers v_bestMany v_underMany v_underLeast v_restMany v_restFirst v_layer v_cabman v_page r1.2.1 r1.2.2)) (c_PM_does l D cI cZ a_p0 a_layer a_cabman a_trial a_shows z_text z_readLayer z_readCabman a_page z_book z_kept z_isKept z_seenCabman z_seenFinger z_seenOff z_seenCame z_value w1 v_thrown v_textSize v_place v_cabmen v_readCabmen v_acts v_seen v_seed v_bestCleaning v_bestLayers v_bestMany v_underMany v_underLeast v_restMany v_restFirst v_layer v_cabman v_trial v_shows r1 h2) hC hA hP hD hS hl.1 cw_PM_188 0 rfl rfl rfl ⟨Nat.le_of_ble_eq_true rfl, Nat.le_of_ble_eq_true rfl⟩ rfl rfl (Nat.le_of_ble_eq_true rfl) d_PM_years_94 ⟨Nat.zero_le _, Nat.zero_le _⟩ [0, 1, 2, 4, 5] [3] [1, 2, 3, 0, 4, 5] (by decide) (Cut_mk rfl rfl (by decide) (by decide) (by decide) rfl) (fun H locs hP hD hS => ?_)
    refine lv_pop hx hb d_PM_years_97 rfl ?_
    refine lv_iload_n hx hb d_PM_years_98 rfl (lv_at hl 2 rfl) ?_
    refine lv_aload_n hx hb d_PM_years_99 rfl (lv_at hl 0 rfl) ?_
    refine gf_PM_28 hC hP 0 rfl rfl d_PM_years_100 ?_
    refine lv_iconst (v := 4) hx hb d_PM_years_103 (by decide) ?_
    obtain ⟨v3, h4, hf⟩ := o_bind hf
    refine r_iald hC hP 4 rfl h4 d_PM_years_104 ?_
    refine lv_iadd hx hb d_PM_years_105 ?_
    refine lv_istore_n (lv' := [(2, .int (x2 + v3)), (0, .ref a_p0), (1, .int x1), (3, .int x3)]) hx hb d_PM_years_106 rfl hl (by decide) rfl (fun ls hl => ?_)
    refine lv_iinc (v := x3 + 1) (lv' := [(3, .int (x3 + 1)), (2, .int (x2 + v3)), (0, .ref a_p0), (1, .int x1)]) hx hb d_PM_years_107 hl (k := 3) rfl (rfl) (by decide) rfl (fun ls hl => ?_)
    refine lv_goto (tgt := 28) hx hb d_PM_years_110 (by decide) ?_
    exact K_28 x1 (x2 + v3) (x3 + 1) v_thrown v_seed r1.2.1 r1.2.2 _ _ _ hP hD hS (lv_sub hl [2, 3, 1, 0] rfl) hf
  have B_28 : ∀  (n : Nat) (x1 : Int32) (x2 : Int32) (x3 : Int32) (v_thrown : Int32) (v_seed : Int64) (v_trial : Nat → Int32) (v_shows : Nat → Int32) (H : Heap) (locs : List Loc) (ls : Array Slot), va_P D classes (cs_PM_years cI cZ a_p0 a_layer a_cabman a_page a_trial a_shows z_text z_readLayer z_readCabman z_book z_kept z_isKept z_seenCabman z_seenFinger z_seenOff z_seenCame z_value v_thrown v_textSize v_place v_cabmen v_readCabmen v_acts v_seen v_seed v_bestCleaning v_bestLayers v_bestMany v_underMany v_underLeast v_restMany v_restFirst v_layer v_cabman v_page v_trial v_shows) H → va_D A (cs_PM_years cI cZ a_p0 a_layer a_cabman a_page a_trial a_shows z_text z_readLayer z_readCabman z_book z_kept z_isKept z_seenCabman z_seenFinger z_seenOff z_seenCame z_value v_thrown v_textSize v_place v_cabmen v_readCabmen v_acts v_seen v_seed v_bestCleaning v_bestLayers v_bestMany v_underMany v_underLeast v_restMany v_restFirst v_layer v_cabman v_page v_trial v_shows) → va_S A s.heap H locs → lv_has ls 5 [(0, .ref a_p0), (1, .int x1), (2, .int x2), (3, .int x3)] → f_PM_years_28  v_cabmen v_layer v_cabman v_page n x1 x2 x3 v_thrown v_seed v_trial v_shows = some res → W p l e (rm_ 5 (40 * 5)) s m args below meth c H locs 0 0 Q (F0 m 28 ls []) := by
    intro  n
    induction n with
    | zero => intro x1 x2 x3 v_thrown v_seed v_trial v_shows H locs ls hP hD hS hl hf; exact nomatch hf
    | succ n ih =>
      intro x1 x2 x3 v_thrown v_seed v_trial v_shows H locs ls hP hD hS hl hf
      have hf : f_PM_years_28_b  (f_PM_years_28  v_cabmen v_layer v_cabman v_page n) v_cabmen v_layer v_cabman v_page x1 x2 x3 v_thrown v_seed v_trial v_shows = some res := hf
      generalize f_PM_years_28  v_cabmen v_layer v_cabman v_page n = back_28 at ih hf
      have K_28 := ih
      unfold f_PM_years_28_b at hf
      refine lv_iload_n hx hb d_PM_years_28 rfl (lv_at hl 3 rfl) ?_
      refine lv_iload_n hx hb d_PM_years_29 rfl (lv_at hl 1 rfl) ?_
      refine lv_icmp_ge (tgt := 113) hx hb d_PM_years_30 (by decide) (fun c1 => ?_) (fun c1 => ?_)
      · have hf := o_pos c1 hf
        refine lv_iload_n hx hb d_PM_years_113 rfl (lv_at hl 2 rfl) ?_
        have hr := Option.some.inj hf
        exact RET _ _ _ _ _ _ rfl (congrArg (fun r : Int32 × Int32 × Int64 × (Nat → Int32) × (Nat → Int32) => r.1) hr) (congrArg (fun r : Int32 × Int32 × Int64 × (Nat → Int32) × (Nat → Int32) => (cs_PM_years cI cZ a_p0 a_layer a_cabman a_page a_trial a_shows z_text z_readLayer z_readCabman z_book z_kept z_isKept z_seenCabman z_seenFinger z_seenOff z_seenCame z_value r.2.1 v_textSize v_place v_cabmen v_readCabmen v_acts v_seen r.2.2.1 v_bestCleaning v_bestLayers v_bestMany v_underMany v_underLeast v_restMany v_restFirst v_layer v_cabman v_page r.2.2.2.1 r.2.2.2.2)) hr) hP hD hS d_PM_years_114
      · have hf := o_neg c1 hf
        refine lv_aload_n hx hb d_PM_years_33 rfl (lv_at hl 0 rfl) ?_
        refine lv_aload_n hx hb d_PM_years_34 rfl (lv_at hl 0 rfl) ?_
        refine gf_PM_224 hC hP 0 rfl rfl d_PM_years_35 ?_
        refine lv_ldc2 (v := 6364136223846793005) hx hb hown (hts _ g831) d_PM_years_38 ?_
        refine lv_lmul hx hb d_PM_years_41 ?_
        refine lv_ldc2 (v := 1442695040888963407) hx hb hown (hts _ g832) d_PM_years_42 ?_
        refine lv_ladd hx hb d_PM_years_45 ?_
        refine pf_PM_224 hC hP hD hS 0 rfl (Nat.le_of_ble_eq_true rfl) d_PM_years_46 (fun H locs hP hD hS => ?_)
        have hP : va_P D classes (cs_PM_years cI cZ a_p0 a_layer a_cabman a_page a_trial a_shows z_text z_readLayer z_readCabman z_book z_kept z_isKept z_seenCabman z_seenFinger z_seenOff z_seenCame z_value v_thrown v_textSize v_place v_cabmen v_readCabmen v_acts v_seen ((v_seed * 6364136223846793005) + 1442695040888963407) v_bestCleaning v_bestLayers v_bestMany v_underMany v_underLeast v_restMany v_restFirst v_layer v_cabman v_page v_trial v_shows) H := hP
        have hD : va_D A (cs_PM_years cI cZ a_p0 a_layer a_cabman a_page a_trial a_shows z_text z_readLayer z_readCabman z_book z_kept z_isKept z_seenCabman z_seenFinger z_seenOff z_seenCame z_value v_thrown v_textSize v_place v_cabmen v_readCabmen v_acts v_seen ((v_seed * 6364136223846793005) + 1442695040888963407) v_bestCleaning v_bestLayers v_bestMany v_underMany v_underLeast v_restMany v_restFirst v_layer v_cabman v_page v_trial v_shows) := hD
        refine lv_aload_n hx hb d_PM_years_49 rfl (lv_at hl 0 rfl) ?_
        refine gf_PM_224 hC hP 0 rfl rfl d_PM_years_50 ?_
        refine lv_bipush (v := 33) hx hb d_PM_years_53 (by decide) ?_
        refine lv_lushr (v := usL ((v_seed * 6364136223846793005) + 1442695040888963407) 33) hx hb d_PM_years_55 rfl ?_
        refine lv_ldc2 (v := 12) hx hb hown (hts _ g833) d_PM_years_56 ?_
        refine lv_lrem hx hb d_PM_years_59 (by decide) ?_
        refine lv_l2i (v := Int64.toInt32 (rmL (usL ((v_seed * 6364136223846793005) + 1442695040888963407) 33) 12)) hx hb d_PM_years_60 rfl ?_
        refine lv_istore (lv' := [(4, .int (Int64.toInt32 (rmL (usL ((v_seed * 6364136223846793005) + 1442695040888963407) 33) 12))), (0, .ref a_p0), (1, .int x1), (2, .int x2), (3, .int x3)]) hx hb d_PM_years_61 hl (by decide) rfl (fun ls hl => ?_)
        refine lv_aload_n hx hb d_PM_years_63 rfl (lv_at hl 1 rfl) ?_
        refine lv_iload hx hb d_PM_years_64 (lv_at hl 0 rfl) ?_
        refine lv_iconst (v := 4) hx hb d_PM_years_66 (by decide) ?_
        refine lv_icmp_ge (tgt := 78) hx hb d_PM_years_67 (by decide) (fun c2 => ?_) (fun c2 => ?_)
        · have hf := o_pos c2 hf
          refine lv_iload hx hb d_PM_years_78 (lv_at hl 0 rfl) ?_
          refine lv_bipush (v := 8) hx hb d_PM_years_80 (by decide) ?_
          refine lv_icmp_ge (tgt := 93) hx hb d_PM_years_82 (by decide) (fun c3 => ?_) (fun c3 => ?_)
          · have hf := o_pos c3 hf
            refine lv_iconst (v := 0) hx hb d_PM_years_93 (by decide) ?_
            exact B_94 back_28 K_28 x1 x2 x3 0 v_thrown ((v_seed * 6364136223846793005) + 1442695040888963407) v_trial v_shows _ _ _ hP hD hS (lv_sub hl [1, 2, 3, 4] rfl) hf
          · have hf := o_neg c3 hf
            refine lv_bipush (v := 16) hx hb d_PM_years_85 (by decide) ?_
            refine lv_iload hx hb d_PM_years_87 (lv_at hl 0 rfl) ?_
            refine lv_iadd hx hb d_PM_years_89 ?_
            refine lv_goto (tgt := 94) hx hb d_PM_years_90 (by decide) ?_
            exact B_94 back_28 K_28 x1 x2 x3 (16 + (Int64.toInt32 (rmL (usL ((v_seed * 6364136223846793005) + 1442695040888963407) 33) 12))) v_thrown ((v_seed * 6364136223846793005) + 1442695040888963407) v_trial v_shows _ _ _ hP hD hS (lv_sub hl [1, 2, 3, 4] rfl) hf
        · have hf := o_neg c2 hf
          refine lv_bipush (v := 10) hx hb d_PM_years_70 (by decide) ?_
          refine lv_iload hx hb d_PM_years_72 (lv_at hl 0 rfl) ?_
          refine lv_iadd hx hb d_PM_years_74 ?_
          refine lv_goto (tgt := 94) hx hb d_PM_years_75 (by decide) ?_
          exact B_94 back_28 K_28 x1 x2 x3 (10 + (Int64.toInt32 (rmL (usL ((v_seed * 6364136223846793005) + 1442695040888963407) 33) 12))) v_thrown ((v_seed * 6364136223846793005) + 1442695040888963407) v_trial v_shows _ _ _ hP hD hS (lv_sub hl [1, 2, 3, 4] rfl) hf
  unfold f_PM_years at hf
  have E : ∀ (H : Heap) (locs : List Loc), va_P D classes (cs_PM_years cI cZ a_p0 a_layer a_cabman a_page a_trial a_shows z_text z_readLayer z_readCabman z_book z_kept z_isKept z_seenCabman z_seenFinger z_seenOff z_seenCame z_value v_thrown v_textSize v_place v_cabmen v_readCabmen v_acts v_seen v_seed v_bestCleaning v_bestLayers v_bestMany v_underMany v_underLeast v_restMany v_restFirst v_layer v_cabman v_page v_trial v_shows) H → va_S A s.heap H locs → W p l e (rm_ 5 (40 * 5)) s m args below meth c H locs 0 0 Q (F0 m 0 ls []) := by
    intro H locs hP hS
    refine lv_aload_n hx hb d_PM_years_0 rfl (lv_at hl 0 rfl) ?_
    refine lv_iconst (v := 0) hx hb d_PM_years_1 (by decide) ?_
    refine pf_PM_59 hC hP hD hS 0 rfl (Nat.le_of_ble_eq_true rfl) d_PM_years_2 (fun H locs hP hD hS => ?_)
    have hP : va_P D classes (cs_PM_years cI cZ a_p0 a_layer a_cabman a_page a_trial a_shows z_text z_readLayer z_readCabman z_book z_kept z_isKept z_seenCabman z_seenFinger z_seenOff z_seenCame z_value 0 v_textSize v_place v_cabmen v_readCabmen v_acts v_seen v_seed v_bestCleaning v_bestLayers v_bestMany v_underMany v_underLeast v_restMany v_restFirst v_layer v_cabman v_page v_trial v_shows) H := hP
    have hD : va_D A (cs_PM_years cI cZ a_p0 a_layer a_cabman a_page a_trial a_shows z_text z_readLayer z_readCabman z_book z_kept z_isKept z_seenCabman z_seenFinger z_seenOff z_seenCame z_value 0 v_textSize v_place v_cabmen v_readCabmen v_acts v_seen v_seed v_bestCleaning v_bestLayers v_bestMany v_underMany v_underLeast v_restMany v_restFirst v_layer v_cabman v_page v_trial v_shows) := hD
    refine lv_iload_n hx hb d_PM_years_5 rfl (lv_at hl 1 rfl) ?_
    refine lv_i2l (v := Int32.toInt64 i1) hx hb d_PM_years_6 rfl ?_
    refine lv_lconst (v := 1) hx hb d_PM_years_7 (by decide) ?_
    refine lv_ldc2 (v := 30) hx hb hown (hts _ g768) d_PM_years_8 ?_
    obtain ⟨r1, h2, hf⟩ := o_bind hf
    refine cSi0 (rest := []) (c_PM_in l D cI cZ (Int32.toInt64 i1) 1 30 r1 h2) hC hA hP hD hS hl.1 cw_PM_66 ⟨Nat.le_of_ble_eq_true rfl, Nat.le_of_ble_eq_true rfl⟩ rfl rfl (Nat.le_of_ble_eq_true rfl) d_PM_years_11 ⟨Nat.zero_le _, Nat.zero_le _⟩ (fun H locs hP hS => ?_)
    refine lv_if_ne (tgt := 20) hx hb d_PM_years_14 (by decide) (fun c3 => ?_) (fun c3 => ?_)
    · have hf := o_neg c3 hf
      refine lv_aload_n hx hb d_PM_years_20 rfl (lv_at hl 0 rfl) ?_
      obtain ⟨r4, h5, hf⟩ := o_bind hf
      refine cVv (rest := []) (wr := [(a_layer, .inl (cI, 12, .inl v_layer)), (a_cabman, .inl (cI, 30, .inl v_cabman)), (a_shows, .inl (cI, 4, .inl v_shows))]) (wn := (cs_PM_years cI cZ a_p0 a_layer a_cabman a_page a_trial a_shows z_text z_readLayer z_readCabman z_book z_kept z_isKept z_seenCabman z_seenFinger z_seenOff z_seenCame z_value 0 v_textSize v_place v_cabmen v_readCabmen v_acts v_seen v_seed v_bestCleaning v_bestLayers v_bestMany v_underMany v_underLeast v_restMany v_restFirst v_layer v_cabman v_page r4 v_shows)) (c_PM_begin l D cI cZ a_p0 a_page a_trial z_text a_layer a_cabman z_readLayer z_readCabman z_book z_kept z_isKept z_seenCabman z_seenFinger z_seenOff z_seenCame z_value a_shows 0 v_textSize v_place v_cabmen v_readCabmen v_acts v_seen v_seed v_bestCleaning v_bestLayers v_bestMany v_underMany v_underLeast v_restMany v_restFirst v_page v_trial r4 h5) hC hA hP hD hS hl.1 cw_PM_181 0 rfl rfl rfl ⟨Nat.le_of_ble_eq_true rfl, Nat.le_of_ble_eq_true rfl⟩ rfl rfl (Nat.le_of_ble_eq_true rfl) d_PM_years_21 ⟨Nat.zero_le _, Nat.zero_le _⟩ [0, 3, 4] [1, 2, 5] [3, 0, 1, 4, 5, 2] (by decide) (Cut_mk rfl rfl (by decide) (by decide) (by decide) rfl) (fun H locs hP hD hS => ?_)
      refine lv_iconst (v := 0) hx hb d_PM_years_24 (by decide) ?_
      refine lv_istore_n (lv' := [(2, .int 0), (0, .ref a_p0), (1, .int i1)]) hx hb d_PM_years_25 rfl hl (by decide) rfl (fun ls hl => ?_)
      refine lv_iconst (v := 0) hx hb d_PM_years_26 (by decide) ?_
      refine lv_istore_n (lv' := [(3, .int 0), (2, .int 0), (0, .ref a_p0), (1, .int i1)]) hx hb d_PM_years_27 rfl hl (by decide) rfl (fun ls hl => ?_)
      exact B_28 300 i1 0 0 0 v_seed r4 v_shows _ _ _ hP hD hS (lv_sub hl [2, 3, 1, 0] rfl) hf
    · have hf := o_pos c3 hf
      refine lv_bipush (v := (-2)) hx hb d_PM_years_17 (by decide) ?_
      have hr := Option.some.inj hf
      exact RET _ _ _ _ _ _ rfl (congrArg (fun r : Int32 × Int32 × Int64 × (Nat → Int32) × (Nat → Int32) => r.1) hr) (congrArg (fun r : Int32 × Int32 × Int64 × (Nat → Int32) × (Nat → Int32) => (cs_PM_years cI cZ a_p0 a_layer a_cabman a_page a_trial a_shows z_text z_readLayer z_readCabman z_book z_kept z_isKept z_seenCabman z_seenFinger z_seenOff z_seenCame z_value r.2.1 v_textSize v_place v_cabmen v_readCabmen v_acts v_seen r.2.2.1 v_bestCleaning v_bestLayers v_bestMany v_underMany v_underLeast v_restMany v_restFirst v_layer v_cabman v_page r.2.2.2.1 r.2.2.2.2)) hr) hP hD hS d_PM_years_19
  exact E _ _ hP hS
set_option maxHeartbeats 4000000 in
set_option maxRecDepth 100000 in
theorem c_PM_keep (l : Launch) (D : va_G) (cI cZ : ClassId) (a_p0 a_page a_kept a_isKept z_text z_layer z_cabman z_readLayer z_readCabman z_trial z_book z_seenCabman z_seenFinger z_seenOff z_seenCame z_value z_shows : Nat) (i1 : Int32) (v_thrown : Int32) (v_textSize : Int32) (v_place : Int32) (v_cabmen : Int32) (v_readCabmen : Int32) (v_acts : Int32) (v_seen : Int32) (v_seed : Int64) (v_bestCleaning : Int32) (v_bestLayers : Int32) (v_bestMany : Int32) (v_underMany : Int32) (v_underLeast : Int32) (v_restMany : Int32) (v_restFirst : Int32) (v_page : Nat → Int32) (v_kept : Nat → Int32) (v_isKept : Nat → Int32) (res : Int32 × Int32 × (Nat → Int32) × (Nat → Int32)) (hf : f_PM_keep i1 v_page v_thrown v_kept v_isKept = some res) : CtI l y_PM_keep b_PM_keep 3 (some .int) 1 D cI cZ [.ref a_p0, .int i1] (cs_PM_keep cI cZ a_p0 a_page a_kept a_isKept z_text z_layer z_cabman z_readLayer z_readCabman z_trial z_book z_seenCabman z_seenFinger z_seenOff z_seenCame z_value z_shows v_thrown v_textSize v_place v_cabmen v_readCabmen v_acts v_seen v_seed v_bestCleaning v_bestLayers v_bestMany v_underMany v_underLeast v_restMany v_restFirst v_page v_kept v_isKept) res.1 (cs_PM_keep cI cZ a_p0 a_page a_kept a_isKept z_text z_layer z_cabman z_readLayer z_readCabman z_trial z_book z_seenCabman z_seenFinger z_seenOff z_seenCame z_value z_shows res.2.1 v_textSize v_place v_cabmen v_readCabmen v_acts v_seen v_seed v_bestCleaning v_bestLayers v_bestMany v_underMany v_underLeast v_restMany v_restFirst v_page res.2.2.1 res.2.2.2) := by
  refine CtI_mk (by decide) (Nat.le_of_ble_eq_true rfl) ?_
  intro p e s m args below meth c A Q hC hA hP hD RET ls hl
  have hC : Cx p s m args meth c b_PM_keep 3 R_PM D cI cZ := hC
  have hl : lv_has ls 3 [(0, .ref a_p0), (1, .int i1)] := hl
  obtain ⟨hx, hb, hml, hown, hts, hlk, hKK⟩ := id hC
  have hS : va_S A s.heap s.heap [] := va_S.rf
  have B_26 : ∀  (n : Nat) (x1 : Int32) (x2 : Int32) (v_thrown : Int32) (v_kept : Nat → Int32) (v_isKept : Nat → Int32) (H : Heap) (locs : List Loc) (ls : Array Slot), va_P D classes (cs_PM_keep cI cZ a_p0 a_page a_kept a_isKept z_text z_layer z_cabman z_readLayer z_readCabman z_trial z_book z_seenCabman z_seenFinger z_seenOff z_seenCame z_value z_shows v_thrown v_textSize v_place v_cabmen v_readCabmen v_acts v_seen v_seed v_bestCleaning v_bestLayers v_bestMany v_underMany v_underLeast v_restMany v_restFirst v_page v_kept v_isKept) H → va_D A (cs_PM_keep cI cZ a_p0 a_page a_kept a_isKept z_text z_layer z_cabman z_readLayer z_readCabman z_trial z_book z_seenCabman z_seenFinger z_seenOff z_seenCame z_value z_shows v_thrown v_textSize v_place v_cabmen v_readCabmen v_acts v_seen v_seed v_bestCleaning v_bestLayers v_bestMany v_underMany v_underLeast v_restMany v_restFirst v_page v_kept v_isKept) → va_S A s.heap H locs → lv_has ls 3 [(0, .ref a_p0), (1, .int x1), (2, .int x2)] → f_PM_keep_26  v_page n x1 x2 v_thrown v_kept v_isKept = some res → W p l e (rm_ 1 (40 * 1)) s m args below meth c H locs 0 0 Q (F0 m 26 ls []) := by
    intro  n
    induction n with
    | zero => intro x1 x2 v_thrown v_kept v_isKept H locs ls hP hD hS hl hf; exact nomatch hf
    | succ n ih =>
      intro x1 x2 v_thrown v_kept v_isKept H locs ls hP hD hS hl hf
      have hf : f_PM_keep_26_b  (f_PM_keep_26  v_page n) v_page x1 x2 v_thrown v_kept v_isKept = some res := hf
      generalize f_PM_keep_26  v_page n = back_26 at ih hf
      have K_26 := ih
      unfold f_PM_keep_26_b at hf
      refine lv_iload_n hx hb d_PM_keep_26 rfl (lv_at hl 2 rfl) ?_
      refine lv_bipush (v := 16) hx hb d_PM_keep_27 (by decide) ?_
      refine lv_icmp_ge (tgt := 55) hx hb d_PM_keep_29 (by decide) (fun c1 => ?_) (fun c1 => ?_)
      · have hf := o_pos c1 hf
        refine lv_aload_n hx hb d_PM_keep_55 rfl (lv_at hl 0 rfl) ?_
        refine gf_PM_25 hC hP 0 rfl rfl d_PM_keep_56 ?_
        refine lv_bipush (v := 15) hx hb d_PM_keep_59 (by decide) ?_
        obtain ⟨v2, h3, hf⟩ := o_bind hf
        refine r_iald hC hP 1 rfl h3 d_PM_keep_61 ?_
        have hr := Option.some.inj hf
        exact RET _ _ _ _ _ _ rfl (congrArg (fun r : Int32 × Int32 × (Nat → Int32) × (Nat → Int32) => r.1) hr) (congrArg (fun r : Int32 × Int32 × (Nat → Int32) × (Nat → Int32) => (cs_PM_keep cI cZ a_p0 a_page a_kept a_isKept z_text z_layer z_cabman z_readLayer z_readCabman z_trial z_book z_seenCabman z_seenFinger z_seenOff z_seenCame z_value z_shows r.2.1 v_textSize v_place v_cabmen v_readCabmen v_acts v_seen v_seed v_bestCleaning v_bestLayers v_bestMany v_underMany v_underLeast v_restMany v_restFirst v_page r.2.2.1 r.2.2.2)) hr) hP hD hS d_PM_keep_62
      · have hf := o_neg c1 hf
        refine lv_aload_n hx hb d_PM_keep_32 rfl (lv_at hl 0 rfl) ?_
        refine gf_PM_34 hC hP 0 rfl rfl d_PM_keep_33 ?_
        refine lv_bipush (v := 16) hx hb d_PM_keep_36 (by decide) ?_
        refine lv_iload_n hx hb d_PM_keep_38 rfl (lv_at hl 1 rfl) ?_
        refine lv_imul hx hb d_PM_keep_39 ?_
        refine lv_iload_n hx hb d_PM_keep_40 rfl (lv_at hl 2 rfl) ?_
        refine lv_iadd hx hb d_PM_keep_41 ?_
        refine lv_aload_n hx hb d_PM_keep_42 rfl (lv_at hl 0 rfl) ?_
        refine gf_PM_25 hC hP 0 rfl rfl d_PM_keep_43 ?_
        refine lv_iload_n hx hb d_PM_keep_46 rfl (lv_at hl 2 rfl) ?_
        obtain ⟨v4, h5, hf⟩ := o_bind hf
        refine r_iald hC hP 1 rfl h5 d_PM_keep_47 ?_
        obtain ⟨g6, h7, hf⟩ := o_bind hf
        refine r_iast hC hP hD hS 2 rfl h7 d_PM_keep_48 (fun H locs hP hD hS => ?_)
        have hP : va_P D classes (cs_PM_keep cI cZ a_p0 a_page a_kept a_isKept z_text z_layer z_cabman z_readLayer z_readCabman z_trial z_book z_seenCabman z_seenFinger z_seenOff z_seenCame z_value z_shows v_thrown v_textSize v_place v_cabmen v_readCabmen v_acts v_seen v_seed v_bestCleaning v_bestLayers v_bestMany v_underMany v_underLeast v_restMany v_restFirst v_page g6 v_isKept) H := hP
        have hD : va_D A (cs_PM_keep cI cZ a_p0 a_page a_kept a_isKept z_text z_layer z_cabman z_readLayer z_readCabman z_trial z_book z_seenCabman z_seenFinger z_seenOff z_seenCame z_value z_shows v_thrown v_textSize v_place v_cabmen v_readCabmen v_acts v_seen v_seed v_bestCleaning v_bestLayers v_bestMany v_underMany v_underLeast v_restMany v_restFirst v_page g6 v_isKept) := hD
        refine lv_iinc (v := x2 + 1) (lv' := [(2, .int (x2 + 1)), (0, .ref a_p0), (1, .int x1)]) hx hb d_PM_keep_49 hl (k := 2) rfl (rfl) (by decide) rfl (fun ls hl => ?_)
        refine lv_goto (tgt := 26) hx hb d_PM_keep_52 (by decide) ?_
        exact K_26 x1 (x2 + 1) v_thrown g6 v_isKept _ _ _ hP hD hS (lv_sub hl [1, 2, 0] rfl) hf
  unfold f_PM_keep at hf
  have E : ∀ (H : Heap) (locs : List Loc), va_P D classes (cs_PM_keep cI cZ a_p0 a_page a_kept a_isKept z_text z_layer z_cabman z_readLayer z_readCabman z_trial z_book z_seenCabman z_seenFinger z_seenOff z_seenCame z_value z_shows v_thrown v_textSize v_place v_cabmen v_readCabmen v_acts v_seen v_seed v_bestCleaning v_bestLayers v_bestMany v_underMany v_underLeast v_restMany v_restFirst v_page v_kept v_isKept) H → va_S A s.heap H locs → W p l e (rm_ 1 (40 * 1)) s m args below meth c H locs 0 0 Q (F0 m 0 ls []) := by
    intro H locs hP hS
    refine lv_aload_n hx hb d_PM_keep_0 rfl (lv_at hl 0 rfl) ?_
    refine lv_iconst (v := 0) hx hb d_PM_keep_1 (by decide) ?_
    refine pf_PM_59 hC hP hD hS 0 rfl (Nat.le_of_ble_eq_true rfl) d_PM_keep_2 (fun H locs hP hD hS => ?_)
    have hP : va_P D classes (cs_PM_keep cI cZ a_p0 a_page a_kept a_isKept z_text z_layer z_cabman z_readLayer z_readCabman z_trial z_book z_seenCabman z_seenFinger z_seenOff z_seenCame z_value z_shows 0 v_textSize v_place v_cabmen v_readCabmen v_acts v_seen v_seed v_bestCleaning v_bestLayers v_bestMany v_underMany v_underLeast v_restMany v_restFirst v_page v_kept v_isKept) H := hP
    have hD : va_D A (cs_PM_keep cI cZ a_p0 a_page a_kept a_isKept z_text z_layer z_cabman z_readLayer z_readCabman z_trial z_book z_seenCabman z_seenFinger z_seenOff z_seenCame z_value z_shows 0 v_textSize v_place v_cabmen v_readCabmen v_acts v_seen v_seed v_bestCleaning v_bestLayers v_bestMany v_underMany v_underLeast v_restMany v_restFirst v_page v_kept v_isKept) := hD
    refine lv_iload_n hx hb d_PM_keep_5 rfl (lv_at hl 1 rfl) ?_
    refine lv_i2l (v := Int32.toInt64 i1) hx hb d_PM_keep_6 rfl ?_
    refine lv_lconst (v := 0) hx hb d_PM_keep_7 (by decide) ?_
    refine lv_lconst (v := 1) hx hb d_PM_keep_8 (by decide) ?_
    obtain ⟨r1, h2, hf⟩ := o_bind hf
    refine cSi0 (rest := []) (c_PM_in l D cI cZ (Int32.toInt64 i1) 0 1 r1 h2) hC hA hP hD hS hl.1 cw_PM_66 ⟨Nat.le_of_ble_eq_true rfl, Nat.le_of_ble_eq_true rfl⟩ rfl rfl (Nat.le_of_ble_eq_true rfl) d_PM_keep_9 ⟨Nat.zero_le _, Nat.zero_le _⟩ (fun H locs hP hS => ?_)
    refine lv_if_ne (tgt := 17) hx hb d_PM_keep_12 (by decide) (fun c3 => ?_) (fun c3 => ?_)
    · have hf := o_neg c3 hf
      refine lv_aload_n hx hb d_PM_keep_17 rfl (lv_at hl 0 rfl) ?_
      refine gf_PM_37 hC hP 0 rfl rfl d_PM_keep_18 ?_
      refine lv_iload_n hx hb d_PM_keep_21 rfl (lv_at hl 1 rfl) ?_
      refine lv_iconst (v := 1) hx hb d_PM_keep_22 (by decide) ?_
      obtain ⟨g4, h5, hf⟩ := o_bind hf
      refine r_zast hC hP hD hS 3 rfl rfl h5 d_PM_keep_23 (fun H locs hP hD hS => ?_)
      have hP : va_P D classes (cs_PM_keep cI cZ a_p0 a_page a_kept a_isKept z_text z_layer z_cabman z_readLayer z_readCabman z_trial z_book z_seenCabman z_seenFinger z_seenOff z_seenCame z_value z_shows 0 v_textSize v_place v_cabmen v_readCabmen v_acts v_seen v_seed v_bestCleaning v_bestLayers v_bestMany v_underMany v_underLeast v_restMany v_restFirst v_page v_kept g4) H := hP
      have hD : va_D A (cs_PM_keep cI cZ a_p0 a_page a_kept a_isKept z_text z_layer z_cabman z_readLayer z_readCabman z_trial z_book z_seenCabman z_seenFinger z_seenOff z_seenCame z_value z_shows 0 v_textSize v_place v_cabmen v_readCabmen v_acts v_seen v_seed v_bestCleaning v_bestLayers v_bestMany v_underMany v_underLeast v_restMany v_restFirst v_page v_kept g4) := hD
      refine lv_iconst (v := 0) hx hb d_PM_keep_24 (by decide) ?_
      refine lv_istore_n (lv' := [(2, .int 0), (0, .ref a_p0), (1, .int i1)]) hx hb d_PM_keep_25 rfl hl (by decide) rfl (fun ls hl => ?_)
      exact B_26 300 i1 0 0 v_kept g4 _ _ _ hP hD hS (lv_sub hl [1, 2, 0] rfl) hf
    · have hf := o_pos c3 hf
      refine lv_iconst (v := (-1)) hx hb d_PM_keep_15 (by decide) ?_
      have hr := Option.some.inj hf
      exact RET _ _ _ _ _ _ rfl (congrArg (fun r : Int32 × Int32 × (Nat → Int32) × (Nat → Int32) => r.1) hr) (congrArg (fun r : Int32 × Int32 × (Nat → Int32) × (Nat → Int32) => (cs_PM_keep cI cZ a_p0 a_page a_kept a_isKept z_text z_layer z_cabman z_readLayer z_readCabman z_trial z_book z_seenCabman z_seenFinger z_seenOff z_seenCame z_value z_shows r.2.1 v_textSize v_place v_cabmen v_readCabmen v_acts v_seen v_seed v_bestCleaning v_bestLayers v_bestMany v_underMany v_underLeast v_restMany v_restFirst v_page r.2.2.1 r.2.2.2)) hr) hP hD hS d_PM_keep_16
  exact E _ _ hP hS
set_option maxHeartbeats 4000000 in
set_option maxRecDepth 100000 in
theorem c_PM_again (l : Launch) (D : va_G) (cI cZ : ClassId) (a_p0 a_page a_kept a_isKept z_text z_layer z_cabman z_readLayer z_readCabman z_trial z_book z_seenCabman z_seenFinger z_seenOff z_seenCame z_value z_shows : Nat) (i1 : Int32) (v_thrown : Int32) (v_textSize : Int32) (v_place : Int32) (v_cabmen : Int32) (v_readCabmen : Int32) (v_acts : Int32) (v_seen : Int32) (v_seed : Int64) (v_bestCleaning : Int32) (v_bestLayers : Int32) (v_bestMany : Int32) (v_underMany : Int32) (v_underLeast : Int32) (v_restMany : Int32) (v_restFirst : Int32) (v_page : Nat → Int32) (v_kept : Nat → Int32) (v_isKept : Nat → Int32) (res : Int32 × Int32 × Int32 × (Nat → Int32)) (hf : f_PM_again i1 v_kept v_isKept v_thrown v_acts v_page = some res) : CtI l y_PM_again b_PM_again 3 (some .int) 1 D cI cZ [.ref a_p0, .int i1] (cs_PM_again cI cZ a_p0 a_page a_kept a_isKept z_text z_layer z_cabman z_readLayer z_readCabman z_trial z_book z_seenCabman z_seenFinger z_seenOff z_seenCame z_value z_shows v_thrown v_textSize v_place v_cabmen v_readCabmen v_acts v_seen v_seed v_bestCleaning v_bestLayers v_bestMany v_underMany v_underLeast v_restMany v_restFirst v_page v_kept v_isKept) res.1 (cs_PM_again cI cZ a_p0 a_page a_kept a_isKept z_text z_layer z_cabman z_readLayer z_readCabman z_trial z_book z_seenCabman z_seenFinger z_seenOff z_seenCame z_value z_shows res.2.1 v_textSize v_place v_cabmen v_readCabmen res.2.2.1 v_seen v_seed v_bestCleaning v_bestLayers v_bestMany v_underMany v_underLeast v_restMany v_restFirst res.2.2.2 v_kept v_isKept) := by
  refine CtI_mk (by decide) (Nat.le_of_ble_eq_true rfl) ?_
  intro p e s m args below meth c A Q hC hA hP hD RET ls hl
  have hC : Cx p s m args meth c b_PM_again 3 R_PM D cI cZ := hC
  have hl : lv_has ls 3 [(0, .ref a_p0), (1, .int i1)] := hl
  obtain ⟨hx, hb, hml, hown, hts, hlk, hKK⟩ := id hC
  have hS : va_S A s.heap s.heap [] := va_S.rf
  have B_31 : ∀  (n : Nat) (x1 : Int32) (x2 : Int32) (v_thrown : Int32) (v_acts : Int32) (v_page : Nat → Int32) (H : Heap) (locs : List Loc) (ls : Array Slot), va_P D classes (cs_PM_again cI cZ a_p0 a_page a_kept a_isKept z_text z_layer z_cabman z_readLayer z_readCabman z_trial z_book z_seenCabman z_seenFinger z_seenOff z_seenCame z_value z_shows v_thrown v_textSize v_place v_cabmen v_readCabmen v_acts v_seen v_seed v_bestCleaning v_bestLayers v_bestMany v_underMany v_underLeast v_restMany v_restFirst v_page v_kept v_isKept) H → va_D A (cs_PM_again cI cZ a_p0 a_page a_kept a_isKept z_text z_layer z_cabman z_readLayer z_readCabman z_trial z_book z_seenCabman z_seenFinger z_seenOff z_seenCame z_value z_shows v_thrown v_textSize v_place v_cabmen v_readCabmen v_acts v_seen v_seed v_bestCleaning v_bestLayers v_bestMany v_underMany v_underLeast v_restMany v_restFirst v_page v_kept v_isKept) → va_S A s.heap H locs → lv_has ls 3 [(0, .ref a_p0), (1, .int x1), (2, .int x2)] → f_PM_again_31  v_kept v_isKept n x1 x2 v_thrown v_acts v_page = some res → W p l e (rm_ 1 (40 * 1)) s m args below meth c H locs 0 0 Q (F0 m 31 ls []) := by
    intro  n
    induction n with
    | zero => intro x1 x2 v_thrown v_acts v_page H locs ls hP hD hS hl hf; exact nomatch hf
    | succ n ih =>
      intro x1 x2 v_thrown v_acts v_page H locs ls hP hD hS hl hf
      have hf : f_PM_again_31_b  (f_PM_again_31  v_kept v_isKept n) v_kept v_isKept x1 x2 v_thrown v_acts v_page = some res := hf
      generalize f_PM_again_31  v_kept v_isKept n = back_31 at ih hf
      have K_31 := ih
      unfold f_PM_again_31_b at hf
      refine lv_iload_n hx hb d_PM_again_31 rfl (lv_at hl 2 rfl) ?_
      refine lv_bipush (v := 16) hx hb d_PM_again_32 (by decide) ?_
      refine lv_icmp_ge (tgt := 60) hx hb d_PM_again_34 (by decide) (fun c1 => ?_) (fun c1 => ?_)
      · have hf := o_pos c1 hf
        refine lv_aload_n hx hb d_PM_again_60 rfl (lv_at hl 0 rfl) ?_
        refine lv_iconst (v := 0) hx hb d_PM_again_61 (by decide) ?_
        refine pf_PM_102 hC hP hD hS 0 rfl (Nat.le_of_ble_eq_true rfl) d_PM_again_62 (fun H locs hP hD hS => ?_)
        have hP : va_P D classes (cs_PM_again cI cZ a_p0 a_page a_kept a_isKept z_text z_layer z_cabman z_readLayer z_readCabman z_trial z_book z_seenCabman z_seenFinger z_seenOff z_seenCame z_value z_shows v_thrown v_textSize v_place v_cabmen v_readCabmen 0 v_seen v_seed v_bestCleaning v_bestLayers v_bestMany v_underMany v_underLeast v_restMany v_restFirst v_page v_kept v_isKept) H := hP
        have hD : va_D A (cs_PM_again cI cZ a_p0 a_page a_kept a_isKept z_text z_layer z_cabman z_readLayer z_readCabman z_trial z_book z_seenCabman z_seenFinger z_seenOff z_seenCame z_value z_shows v_thrown v_textSize v_place v_cabmen v_readCabmen 0 v_seen v_seed v_bestCleaning v_bestLayers v_bestMany v_underMany v_underLeast v_restMany v_restFirst v_page v_kept v_isKept) := hD
        refine lv_aload_n hx hb d_PM_again_65 rfl (lv_at hl 0 rfl) ?_
        refine gf_PM_25 hC hP 0 rfl rfl d_PM_again_66 ?_
        refine lv_bipush (v := 15) hx hb d_PM_again_69 (by decide) ?_
        obtain ⟨v2, h3, hf⟩ := o_bind hf
        refine r_iald hC hP 1 rfl h3 d_PM_again_71 ?_
        have hr := Option.some.inj hf
        exact RET _ _ _ _ _ _ rfl (congrArg (fun r : Int32 × Int32 × Int32 × (Nat → Int32) => r.1) hr) (congrArg (fun r : Int32 × Int32 × Int32 × (Nat → Int32) => (cs_PM_again cI cZ a_p0 a_page a_kept a_isKept z_text z_layer z_cabman z_readLayer z_readCabman z_trial z_book z_seenCabman z_seenFinger z_seenOff z_seenCame z_value z_shows r.2.1 v_textSize v_place v_cabmen v_readCabmen r.2.2.1 v_seen v_seed v_bestCleaning v_bestLayers v_bestMany v_underMany v_underLeast v_restMany v_restFirst r.2.2.2 v_kept v_isKept)) hr) hP hD hS d_PM_again_72
      · have hf := o_neg c1 hf
        refine lv_aload_n hx hb d_PM_again_37 rfl (lv_at hl 0 rfl) ?_
        refine gf_PM_25 hC hP 0 rfl rfl d_PM_again_38 ?_
        refine lv_iload_n hx hb d_PM_again_41 rfl (lv_at hl 2 rfl) ?_
        refine lv_aload_n hx hb d_PM_again_42 rfl (lv_at hl 0 rfl) ?_
        refine gf_PM_34 hC hP 0 rfl rfl d_PM_again_43 ?_
        refine lv_bipush (v := 16) hx hb d_PM_again_46 (by decide) ?_
        refine lv_iload_n hx hb d_PM_again_48 rfl (lv_at hl 1 rfl) ?_
        refine lv_imul hx hb d_PM_again_49 ?_
        refine lv_iload_n hx hb d_PM_again_50 rfl (lv_at hl 2 rfl) ?_
        refine lv_iadd hx hb d_PM_again_51 ?_
        obtain ⟨v4, h5, hf⟩ := o_bind hf
        refine r_iald hC hP 2 rfl h5 d_PM_again_52 ?_
        obtain ⟨g6, h7, hf⟩ := o_bind hf
        refine r_iast hC hP hD hS 1 rfl h7 d_PM_again_53 (fun H locs hP hD hS => ?_)
        have hP : va_P D classes (cs_PM_again cI cZ a_p0 a_page a_kept a_isKept z_text z_layer z_cabman z_readLayer z_readCabman z_trial z_book z_seenCabman z_seenFinger z_seenOff z_seenCame z_value z_shows v_thrown v_textSize v_place v_cabmen v_readCabmen v_acts v_seen v_seed v_bestCleaning v_bestLayers v_bestMany v_underMany v_underLeast v_restMany v_restFirst g6 v_kept v_isKept) H := hP
        have hD : va_D A (cs_PM_again cI cZ a_p0 a_page a_kept a_isKept z_text z_layer z_cabman z_readLayer z_readCabman z_trial z_book z_seenCabman z_seenFinger z_seenOff z_seenCame z_value z_shows v_thrown v_textSize v_place v_cabmen v_readCabmen v_acts v_seen v_seed v_bestCleaning v_bestLayers v_bestMany v_underMany v_underLeast v_restMany v_restFirst g6 v_kept v_isKept) := hD
        refine lv_iinc (v := x2 + 1) (lv' := [(2, .int (x2 + 1)), (0, .ref a_p0), (1, .int x1)]) hx hb d_PM_again_54 hl (k := 2) rfl (rfl) (by decide) rfl (fun ls hl => ?_)
        refine lv_goto (tgt := 31) hx hb d_PM_again_57 (by decide) ?_
        exact K_31 x1 (x2 + 1) v_thrown v_acts g6 _ _ _ hP hD hS (lv_sub hl [1, 2, 0] rfl) hf
  unfold f_PM_again at hf
  have E : ∀ (H : Heap) (locs : List Loc), va_P D classes (cs_PM_again cI cZ a_p0 a_page a_kept a_isKept z_text z_layer z_cabman z_readLayer z_readCabman z_trial z_book z_seenCabman z_seenFinger z_seenOff z_seenCame z_value z_shows v_thrown v_textSize v_place v_cabmen v_readCabmen v_acts v_seen v_seed v_bestCleaning v_bestLayers v_bestMany v_underMany v_underLeast v_restMany v_restFirst v_page v_kept v_isKept) H → va_S A s.heap H locs → W p l e (rm_ 1 (40 * 1)) s m args below meth c H locs 0 0 Q (F0 m 0 ls []) := by
    intro H locs hP hS
    refine lv_aload_n hx hb d_PM_again_0 rfl (lv_at hl 0 rfl) ?_
    refine lv_iconst (v := 0) hx hb d_PM_again_1 (by decide) ?_
    refine pf_PM_59 hC hP hD hS 0 rfl (Nat.le_of_ble_eq_true rfl) d_PM_again_2 (fun H locs hP hD hS => ?_)
    have hP : va_P D classes (cs_PM_again cI cZ a_p0 a_page a_kept a_isKept z_text z_layer z_cabman z_readLayer z_readCabman z_trial z_book z_seenCabman z_seenFinger z_seenOff z_seenCame z_value z_shows 0 v_textSize v_place v_cabmen v_readCabmen v_acts v_seen v_seed v_bestCleaning v_bestLayers v_bestMany v_underMany v_underLeast v_restMany v_restFirst v_page v_kept v_isKept) H := hP
    have hD : va_D A (cs_PM_again cI cZ a_p0 a_page a_kept a_isKept z_text z_layer z_cabman z_readLayer z_readCabman z_trial z_book z_seenCabman z_seenFinger z_seenOff z_seenCame z_value z_shows 0 v_textSize v_place v_cabmen v_readCabmen v_acts v_seen v_seed v_bestCleaning v_bestLayers v_bestMany v_underMany v_underLeast v_restMany v_restFirst v_page v_kept v_isKept) := hD
    refine lv_iload_n hx hb d_PM_again_5 rfl (lv_at hl 1 rfl) ?_
    refine lv_i2l (v := Int32.toInt64 i1) hx hb d_PM_again_6 rfl ?_
    refine lv_lconst (v := 0) hx hb d_PM_again_7 (by decide) ?_
    refine lv_lconst (v := 1) hx hb d_PM_again_8 (by decide) ?_
    obtain ⟨r1, h2, hf⟩ := o_bind hf
    refine cSi0 (rest := []) (c_PM_in l D cI cZ (Int32.toInt64 i1) 0 1 r1 h2) hC hA hP hD hS hl.1 cw_PM_66 ⟨Nat.le_of_ble_eq_true rfl, Nat.le_of_ble_eq_true rfl⟩ rfl rfl (Nat.le_of_ble_eq_true rfl) d_PM_again_9 ⟨Nat.zero_le _, Nat.zero_le _⟩ (fun H locs hP hS => ?_)
    refine lv_if_ne (tgt := 17) hx hb d_PM_again_12 (by decide) (fun c3 => ?_) (fun c3 => ?_)
    · have hf := o_neg c3 hf
      refine lv_aload_n hx hb d_PM_again_17 rfl (lv_at hl 0 rfl) ?_
      refine gf_PM_37 hC hP 0 rfl rfl d_PM_again_18 ?_
      refine lv_iload_n hx hb d_PM_again_21 rfl (lv_at hl 1 rfl) ?_
      obtain ⟨v4, h5, hf⟩ := o_bind hf
      refine r_zald hC hP 3 rfl h5 d_PM_again_22 ?_
      refine lv_if_ne (tgt := 29) hx hb d_PM_again_23 (by decide) (fun c6 => ?_) (fun c6 => ?_)
      · have hf := o_neg c6 hf
        refine lv_iconst (v := 0) hx hb d_PM_again_29 (by decide) ?_
        refine lv_istore_n (lv' := [(2, .int 0), (0, .ref a_p0), (1, .int i1)]) hx hb d_PM_again_30 rfl hl (by decide) rfl (fun ls hl => ?_)
        exact B_31 300 i1 0 0 v_acts v_page _ _ _ hP hD hS (lv_sub hl [1, 2, 0] rfl) hf
      · have hf := o_pos c6 hf
        refine lv_bipush (v := (-3)) hx hb d_PM_again_26 (by decide) ?_
        have hr := Option.some.inj hf
        exact RET _ _ _ _ _ _ rfl (congrArg (fun r : Int32 × Int32 × Int32 × (Nat → Int32) => r.1) hr) (congrArg (fun r : Int32 × Int32 × Int32 × (Nat → Int32) => (cs_PM_again cI cZ a_p0 a_page a_kept a_isKept z_text z_layer z_cabman z_readLayer z_readCabman z_trial z_book z_seenCabman z_seenFinger z_seenOff z_seenCame z_value z_shows r.2.1 v_textSize v_place v_cabmen v_readCabmen r.2.2.1 v_seen v_seed v_bestCleaning v_bestLayers v_bestMany v_underMany v_underLeast v_restMany v_restFirst r.2.2.2 v_kept v_isKept)) hr) hP hD hS d_PM_again_28
    · have hf := o_pos c3 hf
      refine lv_iconst (v := (-1)) hx hb d_PM_again_15 (by decide) ?_
      have hr := Option.some.inj hf
      exact RET _ _ _ _ _ _ rfl (congrArg (fun r : Int32 × Int32 × Int32 × (Nat → Int32) => r.1) hr) (congrArg (fun r : Int32 × Int32 × Int32 × (Nat → Int32) => (cs_PM_again cI cZ a_p0 a_page a_kept a_isKept z_text z_layer z_cabman z_readLayer z_readCabman z_trial z_book z_seenCabman z_seenFinger z_seenOff z_seenCame z_value z_shows r.2.1 v_textSize v_place v_cabmen v_readCabmen r.2.2.1 v_seen v_seed v_bestCleaning v_bestLayers v_bestMany v_underMany v_underLeast v_restMany v_restFirst r.2.2.2 v_kept v_isKept)) hr) hP hD hS d_PM_again_16
  exact E _ _ hP hS
