set_option maxHeartbeats 4000000 in
set_option maxRecDepth 100000 in
theorem c_Int_bitCount (l : Launch) (D : va_G) (cI cZ : ClassId) (i0 : Int32) (res : Int32) (hf : f_Int_bitCount i0 = some res) : CtI l y_Int_bitCount b_Int_bitCount 1 (some .int) 0 D cI cZ [.int i0] [] res [] := by
  refine CtI_mk (by decide) (Nat.le_of_ble_eq_true rfl) ?_
  intro p e s m args below meth c A Q hC hA hP hD RET ls hl
  have hC : Cx p s m args meth c b_Int_bitCount 1 R_Int D cI cZ := hC
  have hl : lv_has ls 1 [(0, .int i0)] := hl
  obtain ⟨hx, hb, hml, hown, hts, hlk, hKK⟩ := id hC
  have hS : va_S A s.heap s.heap [] := va_S.rf
  have B_41 : ∀  (x0 : Int32) (H : Heap) (locs : List Loc) (ls : Array Slot), va_P D classes [] H → va_D A [] → va_S A s.heap H locs → lv_has ls 1 [(0, .int x0)] → f_Int_bitCount_41   x0 = some res → W p l e (rm_ 0 (40 * 0)) s m args below meth c H locs 0 0 Q (F0 m 41 ls []) := by
    intro  x0 H locs ls hP hD hS hl hf
    unfold f_Int_bitCount_41 at hf
    refine lv_iload_n hx hb d_Int_bitCount_41 rfl (lv_at hl 0 rfl) ?_
    refine lv_iload_n hx hb d_Int_bitCount_42 rfl (lv_at hl 0 rfl) ?_
    refine lv_bipush (v := 16) hx hb d_Int_bitCount_43 (by decide) ?_
    refine lv_iushr (v := usI x0 16) hx hb d_Int_bitCount_45 rfl ?_
    refine lv_iadd hx hb d_Int_bitCount_46 ?_
    refine lv_istore_n (lv' := [(0, .int (x0 + (usI x0 16)))]) hx hb d_Int_bitCount_47 rfl hl (by decide) rfl (fun ls hl => ?_)
    refine lv_iload_n hx hb d_Int_bitCount_48 rfl (lv_at hl 0 rfl) ?_
    refine lv_bipush (v := 63) hx hb d_Int_bitCount_49 (by decide) ?_
    refine lv_iand hx hb d_Int_bitCount_51 ?_
    have hr := Option.some.inj hf
    exact RET _ _ _ _ _ _ rfl (congrArg (fun r : Int32 => r) hr) rfl hP hD hS d_Int_bitCount_52
  have B_24 : ∀  (x0 : Int32) (H : Heap) (locs : List Loc) (ls : Array Slot), va_P D classes [] H → va_D A [] → va_S A s.heap H locs → lv_has ls 1 [(0, .int x0)] → f_Int_bitCount_24   x0 = some res → W p l e (rm_ 0 (40 * 0)) s m args below meth c H locs 0 0 Q (F0 m 24 ls []) := by
    intro  x0 H locs ls hP hD hS hl hf
    unfold f_Int_bitCount_24 at hf
    refine lv_iload_n hx hb d_Int_bitCount_24 rfl (lv_at hl 0 rfl) ?_
    refine lv_iload_n hx hb d_Int_bitCount_25 rfl (lv_at hl 0 rfl) ?_
    refine lv_iconst (v := 4) hx hb d_Int_bitCount_26 (by decide) ?_
    refine lv_iushr (v := usI x0 4) hx hb d_Int_bitCount_27 rfl ?_
    refine lv_iadd hx hb d_Int_bitCount_28 ?_
    refine lv_ldcw (v := 252645135) hx hb hown (hts _ g317) d_Int_bitCount_29 ?_
    refine lv_iand hx hb d_Int_bitCount_32 ?_
    refine lv_istore_n (lv' := [(0, .int ((x0 + (usI x0 4)) &&& 252645135))]) hx hb d_Int_bitCount_33 rfl hl (by decide) rfl (fun ls hl => ?_)
    refine lv_iload_n hx hb d_Int_bitCount_34 rfl (lv_at hl 0 rfl) ?_
    refine lv_iload_n hx hb d_Int_bitCount_35 rfl (lv_at hl 0 rfl) ?_
    refine lv_bipush (v := 8) hx hb d_Int_bitCount_36 (by decide) ?_
    refine lv_iushr (v := usI ((x0 + (usI x0 4)) &&& 252645135) 8) hx hb d_Int_bitCount_38 rfl ?_
    refine lv_iadd hx hb d_Int_bitCount_39 ?_
    refine lv_istore_n (lv' := [(0, .int (((x0 + (usI x0 4)) &&& 252645135) + (usI ((x0 + (usI x0 4)) &&& 252645135) 8)))]) hx hb d_Int_bitCount_40 rfl hl (by decide) rfl (fun ls hl => ?_)
    exact B_41 (((x0 + (usI x0 4)) &&& 252645135) + (usI ((x0 + (usI x0 4)) &&& 252645135) 8)) _ _ _ hP hD hS (lv_sub hl [0] rfl) hf
  unfold f_Int_bitCount at hf
  have E : ∀ (H : Heap) (locs : List Loc), va_P D classes [] H → va_S A s.heap H locs → W p l e (rm_ 0 (40 * 0)) s m args below meth c H locs 0 0 Q (F0 m 0 ls []) := by
    intro H locs hP hS
    refine lv_iload_n hx hb d_Int_bitCount_0 rfl (lv_at hl 0 rfl) ?_
    refine lv_iload_n hx hb d_Int_bitCount_1 rfl (lv_at hl 0 rfl) ?_
    refine lv_iconst (v := 1) hx hb d_Int_bitCount_2 (by decide) ?_
    refine lv_iushr (v := usI i0 1) hx hb d_Int_bitCount_3 rfl ?_
    refine lv_ldcw (v := 1431655765) hx hb hown (hts _ g315) d_Int_bitCount_4 ?_
    refine lv_iand hx hb d_Int_bitCount_7 ?_
    refine lv_isub hx hb d_Int_bitCount_8 ?_
    refine lv_istore_n (lv' := [(0, .int (i0 - ((usI i0 1) &&& 1431655765)))]) hx hb d_Int_bitCount_9 rfl hl (by decide) rfl (fun ls hl => ?_)
    refine lv_iload_n hx hb d_Int_bitCount_10 rfl (lv_at hl 0 rfl) ?_
    refine lv_ldcw (v := 858993459) hx hb hown (hts _ g316) d_Int_bitCount_11 ?_
    refine lv_iand hx hb d_Int_bitCount_14 ?_
    refine lv_iload_n hx hb d_Int_bitCount_15 rfl (lv_at hl 0 rfl) ?_
    refine lv_iconst (v := 2) hx hb d_Int_bitCount_16 (by decide) ?_
    refine lv_iushr (v := usI (i0 - ((usI i0 1) &&& 1431655765)) 2) hx hb d_Int_bitCount_17 rfl ?_
    refine lv_ldcw (v := 858993459) hx hb hown (hts _ g316) d_Int_bitCount_18 ?_
    refine lv_iand hx hb d_Int_bitCount_21 ?_
    refine lv_iadd hx hb d_Int_bitCount_22 ?_
    refine lv_istore_n (lv' := [(0, .int (((i0 - ((usI i0 1) &&& 1431655765)) &&& 858993459) + ((usI (i0 - ((usI i0 1) &&& 1431655765)) 2) &&& 858993459)))]) hx hb d_Int_bitCount_23 rfl hl (by decide) rfl (fun ls hl => ?_)
    exact B_24 (((i0 - ((usI i0 1) &&& 1431655765)) &&& 858993459) + ((usI (i0 - ((usI i0 1) &&& 1431655765)) 2) &&& 858993459)) _ _ _ hP hD hS (lv_sub hl [0] rfl) hf
  exact E _ _ hP hS
set_option maxHeartbeats 4000000 in
set_option maxRecDepth 100000 in
theorem c_Scene_canTakeOff (l : Launch) (D : va_G) (cI cZ : ClassId) (a_p0 a_off z_waited : Nat) (i1 : Int32) (v_nights : Int32) (v_off : Nat → Int32) (res : Int32) (hf : f_Scene_canTakeOff i1 v_off = some res) : CtI l y_Scene_canTakeOff b_Scene_canTakeOff 2 (some .boolean) 1 D cI cZ [.ref a_p0, .int i1] (cs_Scene_canTakeOff cI cZ a_p0 a_off z_waited v_nights v_off) res (cs_Scene_canTakeOff cI cZ a_p0 a_off z_waited v_nights v_off) := by
  refine CtI_mk (by decide) (Nat.le_of_ble_eq_true rfl) ?_
  intro p e s m args below meth c A Q hC hA hP hD RET ls hl
  have hC : Cx p s m args meth c b_Scene_canTakeOff 2 R_Scene D cI cZ := hC
  have hl : lv_has ls 2 [(0, .ref a_p0), (1, .int i1)] := hl
  obtain ⟨hx, hb, hml, hown, hts, hlk, hKK⟩ := id hC
  have hS : va_S A s.heap s.heap [] := va_S.rf
  have B_22 : ∀  (w0 : Int32) (H : Heap) (locs : List Loc) (ls : Array Slot), va_P D classes (cs_Scene_canTakeOff cI cZ a_p0 a_off z_waited v_nights v_off) H → va_D A (cs_Scene_canTakeOff cI cZ a_p0 a_off z_waited v_nights v_off) → va_S A s.heap H locs → lv_has ls 2 [] → f_Scene_canTakeOff_22  v_off w0 = some res → W p l e (rm_ 1 (40 * 1)) s m args below meth c H locs 0 0 Q (F0 m 22 ls [.int w0]) := by
    intro  w0 H locs ls hP hD hS hl hf
    unfold f_Scene_canTakeOff_22 at hf
    obtain ⟨h1, hf⟩ := o_ite hf
    have hr := Option.some.inj hf
    exact RET _ _ _ _ _ _ (narB h1) (congrArg (fun r : Int32 => r) hr) rfl hP hD hS d_Scene_canTakeOff_22
  have B_21 : ∀   (H : Heap) (locs : List Loc) (ls : Array Slot), va_P D classes (cs_Scene_canTakeOff cI cZ a_p0 a_off z_waited v_nights v_off) H → va_D A (cs_Scene_canTakeOff cI cZ a_p0 a_off z_waited v_nights v_off) → va_S A s.heap H locs → lv_has ls 2 [] → f_Scene_canTakeOff_21  v_off  = some res → W p l e (rm_ 1 (40 * 1)) s m args below meth c H locs 0 0 Q (F0 m 21 ls []) := by
    intro   H locs ls hP hD hS hl hf
    unfold f_Scene_canTakeOff_21 at hf
    refine lv_iconst (v := 0) hx hb d_Scene_canTakeOff_21 (by decide) ?_
    exact B_22 0 _ _ _ hP hD hS (lv_sub hl [] rfl) hf
  unfold f_Scene_canTakeOff at hf
  have E : ∀ (H : Heap) (locs : List Loc), va_P D classes (cs_Scene_canTakeOff cI cZ a_p0 a_off z_waited v_nights v_off) H → va_S A s.heap H locs → W p l e (rm_ 1 (40 * 1)) s m args below meth c H locs 0 0 Q (F0 m 0 ls []) := by
    intro H locs hP hS
    refine lv_iload_n hx hb d_Scene_canTakeOff_0 rfl (lv_at hl 1 rfl) ?_
    obtain ⟨r1, h2, hf⟩ := o_bind hf
    refine cNi0 (rest := []) (c_PR_isFinger l D cI cZ i1 r1 h2) hC hA hP hD hS hl.1 cw_Scene_34 ⟨Nat.le_of_ble_eq_true rfl, Nat.le_of_ble_eq_true rfl⟩ rfl rfl (Nat.le_of_ble_eq_true rfl) d_Scene_canTakeOff_1 ⟨Nat.zero_le _, Nat.zero_le _⟩ (fun H locs hP hS => ?_)
    refine lv_if_eq (tgt := 21) hx hb d_Scene_canTakeOff_4 (by decide) (fun c3 => ?_) (fun c3 => ?_)
    · have hf := o_pos c3 hf
      exact B_21 _ _ _ hP hD hS (lv_sub hl [] rfl) hf
    · have hf := o_neg c3 hf
      refine lv_aload_n hx hb d_Scene_canTakeOff_7 rfl (lv_at hl 0 rfl) ?_
      refine gf_Scene_9 hC hP 0 rfl rfl d_Scene_canTakeOff_8 ?_
      refine lv_iload_n hx hb d_Scene_canTakeOff_11 rfl (lv_at hl 1 rfl) ?_
      obtain ⟨v4, h5, hf⟩ := o_bind hf
      refine r_iald hC hP 1 rfl h5 d_Scene_canTakeOff_12 ?_
      refine lv_iconst (v := 2) hx hb d_Scene_canTakeOff_13 (by decide) ?_
      refine lv_icmp_ge (tgt := 21) hx hb d_Scene_canTakeOff_14 (by decide) (fun c6 => ?_) (fun c6 => ?_)
      · have hf := o_pos c6 hf
        exact B_21 _ _ _ hP hD hS (lv_sub hl [] rfl) hf
      · have hf := o_neg c6 hf
        refine lv_iconst (v := 1) hx hb d_Scene_canTakeOff_17 (by decide) ?_
        refine lv_goto (tgt := 22) hx hb d_Scene_canTakeOff_18 (by decide) ?_
        exact B_22 1 _ _ _ hP hD hS (lv_sub hl [] rfl) hf
  exact E _ _ hP hS
set_option maxHeartbeats 4000000 in
set_option maxRecDepth 100000 in
theorem c_Scene_takeOff (l : Launch) (D : va_G) (cI cZ : ClassId) (a_p0 a_off z_waited : Nat) (i1 : Int32) (v_nights : Int32) (v_off : Nat → Int32) (res : Int32 × (Nat → Int32)) (hf : f_Scene_takeOff i1 v_off = some res) : CtI l y_Scene_takeOff b_Scene_takeOff 3 (some .boolean) 2 D cI cZ [.ref a_p0, .int i1] (cs_Scene_takeOff cI cZ a_p0 a_off z_waited v_nights v_off) res.1 (cs_Scene_takeOff cI cZ a_p0 a_off z_waited v_nights res.2) := by
  refine CtI_mk (by decide) (Nat.le_of_ble_eq_true rfl) ?_
  intro p e s m args below meth c A Q hC hA hP hD RET ls hl
  have hC : Cx p s m args meth c b_Scene_takeOff 3 R_Scene D cI cZ := hC
  have hl : lv_has ls 3 [(0, .ref a_p0), (1, .int i1)] := hl
  obtain ⟨hx, hb, hml, hown, hts, hlk, hKK⟩ := id hC
  have hS : va_S A s.heap s.heap [] := va_S.rf
  have B_20 : ∀  (x2 : Int32) (v_off : Nat → Int32) (H : Heap) (locs : List Loc) (ls : Array Slot), va_P D classes (cs_Scene_takeOff cI cZ a_p0 a_off z_waited v_nights v_off) H → va_D A (cs_Scene_takeOff cI cZ a_p0 a_off z_waited v_nights v_off) → va_S A s.heap H locs → lv_has ls 3 [(2, .int x2)] → f_Scene_takeOff_20   x2 v_off = some res → W p l e (rm_ 2 (40 * 2)) s m args below meth c H locs 0 0 Q (F0 m 20 ls []) := by
    intro  x2 v_off H locs ls hP hD hS hl hf
    unfold f_Scene_takeOff_20 at hf
    refine lv_iload_n hx hb d_Scene_takeOff_20 rfl (lv_at hl 0 rfl) ?_
    obtain ⟨h1, hf⟩ := o_ite hf
    have hr := Option.some.inj hf
    exact RET _ _ _ _ _ _ (narB h1) (congrArg (fun r : Int32 × (Nat → Int32) => r.1) hr) (congrArg (fun r : Int32 × (Nat → Int32) => (cs_Scene_takeOff cI cZ a_p0 a_off z_waited v_nights r.2)) hr) hP hD hS d_Scene_takeOff_21
  unfold f_Scene_takeOff at hf
  have E : ∀ (H : Heap) (locs : List Loc), va_P D classes (cs_Scene_takeOff cI cZ a_p0 a_off z_waited v_nights v_off) H → va_S A s.heap H locs → W p l e (rm_ 2 (40 * 2)) s m args below meth c H locs 0 0 Q (F0 m 0 ls []) := by
    intro H locs hP hS
    refine lv_aload_n hx hb d_Scene_takeOff_0 rfl (lv_at hl 0 rfl) ?_
    refine lv_iload_n hx hb d_Scene_takeOff_1 rfl (lv_at hl 1 rfl) ?_
    obtain ⟨r1, h2, hf⟩ := o_bind hf
    refine cVi (rest := []) (wr := []) (wn := (cs_Scene_takeOff cI cZ a_p0 a_off z_waited v_nights v_off)) (c_Scene_canTakeOff l D cI cZ a_p0 a_off z_waited i1 v_nights v_off r1 h2) hC hA hP hD hS hl.1 cw_Scene_38 0 rfl rfl rfl ⟨Nat.le_of_ble_eq_true rfl, Nat.le_of_ble_eq_true rfl⟩ rfl rfl (Nat.le_of_ble_eq_true rfl) d_Scene_takeOff_2 ⟨Nat.zero_le _, Nat.zero_le _⟩ [0, 1] [] [0, 1] (by decide) (Cut_mk rfl rfl (by decide) (by decide) (by decide) rfl) (fun H locs hP hD hS => ?_)
    refine lv_istore_n (lv' := [(2, .int r1), (0, .ref a_p0), (1, .int i1)]) hx hb d_Scene_takeOff_5 rfl hl (by decide) rfl (fun ls hl => ?_)
    refine lv_iload_n hx hb d_Scene_takeOff_6 rfl (lv_at hl 0 rfl) ?_
    refine lv_if_eq (tgt := 20) hx hb d_Scene_takeOff_7 (by decide) (fun c3 => ?_) (fun c3 => ?_)
    · have hf := o_pos c3 hf
      exact B_20 r1 v_off _ _ _ hP hD hS (lv_sub hl [0] rfl) hf
    · have hf := o_neg c3 hf
      refine lv_aload_n hx hb d_Scene_takeOff_10 rfl (lv_at hl 1 rfl) ?_
      refine gf_Scene_9 hC hP 0 rfl rfl d_Scene_takeOff_11 ?_
      refine lv_iload_n hx hb d_Scene_takeOff_14 rfl (lv_at hl 2 rfl) ?_
      refine lv_dup2_11 hx hb d_Scene_takeOff_15 rfl rfl ?_
      obtain ⟨v4, h5, hf⟩ := o_bind hf
      refine r_iald hC hP 1 rfl h5 d_Scene_takeOff_16 ?_
      refine lv_iconst (v := 1) hx hb d_Scene_takeOff_17 (by decide) ?_
      refine lv_iadd hx hb d_Scene_takeOff_18 ?_
      obtain ⟨g6, h7, hf⟩ := o_bind hf
      refine r_iast hC hP hD hS 1 rfl h7 d_Scene_takeOff_19 (fun H locs hP hD hS => ?_)
      have hP : va_P D classes (cs_Scene_takeOff cI cZ a_p0 a_off z_waited v_nights g6) H := hP
      have hD : va_D A (cs_Scene_takeOff cI cZ a_p0 a_off z_waited v_nights g6) := hD
      exact B_20 r1 g6 _ _ _ hP hD hS (lv_sub hl [0] rfl) hf
  exact E _ _ hP hS
set_option maxHeartbeats 4000000 in
set_option maxRecDepth 100000 in
theorem c_Scene_canPutOn (l : Launch) (D : va_G) (cI cZ : ClassId) (a_p0 a_off z_waited : Nat) (i1 : Int32) (v_nights : Int32) (v_off : Nat → Int32) (res : Int32) (hf : f_Scene_canPutOn i1 v_off = some res) : CtI l y_Scene_canPutOn b_Scene_canPutOn 2 (some .boolean) 1 D cI cZ [.ref a_p0, .int i1] (cs_Scene_canPutOn cI cZ a_p0 a_off z_waited v_nights v_off) res (cs_Scene_canPutOn cI cZ a_p0 a_off z_waited v_nights v_off) := by
  refine CtI_mk (by decide) (Nat.le_of_ble_eq_true rfl) ?_
  intro p e s m args below meth c A Q hC hA hP hD RET ls hl
  have hC : Cx p s m args meth c b_Scene_canPutOn 2 R_Scene D cI cZ := hC
  have hl : lv_has ls 2 [(0, .ref a_p0), (1, .int i1)] := hl
  obtain ⟨hx, hb, hml, hown, hts, hlk, hKK⟩ := id hC
  have hS : va_S A s.heap s.heap [] := va_S.rf
  have B_21 : ∀  (w0 : Int32) (H : Heap) (locs : List Loc) (ls : Array Slot), va_P D classes (cs_Scene_canPutOn cI cZ a_p0 a_off z_waited v_nights v_off) H → va_D A (cs_Scene_canPutOn cI cZ a_p0 a_off z_waited v_nights v_off) → va_S A s.heap H locs → lv_has ls 2 [] → f_Scene_canPutOn_21  v_off w0 = some res → W p l e (rm_ 1 (40 * 1)) s m args below meth c H locs 0 0 Q (F0 m 21 ls [.int w0]) := by
    intro  w0 H locs ls hP hD hS hl hf
    unfold f_Scene_canPutOn_21 at hf
    obtain ⟨h1, hf⟩ := o_ite hf
    have hr := Option.some.inj hf
    exact RET _ _ _ _ _ _ (narB h1) (congrArg (fun r : Int32 => r) hr) rfl hP hD hS d_Scene_canPutOn_21
  have B_20 : ∀   (H : Heap) (locs : List Loc) (ls : Array Slot), va_P D classes (cs_Scene_canPutOn cI cZ a_p0 a_off z_waited v_nights v_off) H → va_D A (cs_Scene_canPutOn cI cZ a_p0 a_off z_waited v_nights v_off) → va_S A s.heap H locs → lv_has ls 2 [] → f_Scene_canPutOn_20  v_off  = some res → W p l e (rm_ 1 (40 * 1)) s m args below meth c H locs 0 0 Q (F0 m 20 ls []) := by
    intro   H locs ls hP hD hS hl hf
    unfold f_Scene_canPutOn_20 at hf
    refine lv_iconst (v := 0) hx hb d_Scene_canPutOn_20 (by decide) ?_
    exact B_21 0 _ _ _ hP hD hS (lv_sub hl [] rfl) hf
  unfold f_Scene_canPutOn at hf
  have E : ∀ (H : Heap) (locs : List Loc), va_P D classes (cs_Scene_canPutOn cI cZ a_p0 a_off z_waited v_nights v_off) H → va_S A s.heap H locs → W p l e (rm_ 1 (40 * 1)) s m args below meth c H locs 0 0 Q (F0 m 0 ls []) := by
    intro H locs hP hS
    refine lv_iload_n hx hb d_Scene_canPutOn_0 rfl (lv_at hl 1 rfl) ?_
    obtain ⟨r1, h2, hf⟩ := o_bind hf
    refine cNi0 (rest := []) (c_PR_isFinger l D cI cZ i1 r1 h2) hC hA hP hD hS hl.1 cw_Scene_34 ⟨Nat.le_of_ble_eq_true rfl, Nat.le_of_ble_eq_true rfl⟩ rfl rfl (Nat.le_of_ble_eq_true rfl) d_Scene_canPutOn_1 ⟨Nat.zero_le _, Nat.zero_le _⟩ (fun H locs hP hS => ?_)
    refine lv_if_eq (tgt := 20) hx hb d_Scene_canPutOn_4 (by decide) (fun c3 => ?_) (fun c3 => ?_)
    · have hf := o_pos c3 hf
      exact B_20 _ _ _ hP hD hS (lv_sub hl [] rfl) hf
    · have hf := o_neg c3 hf
      refine lv_aload_n hx hb d_Scene_canPutOn_7 rfl (lv_at hl 0 rfl) ?_
      refine gf_Scene_9 hC hP 0 rfl rfl d_Scene_canPutOn_8 ?_
      refine lv_iload_n hx hb d_Scene_canPutOn_11 rfl (lv_at hl 1 rfl) ?_
      obtain ⟨v4, h5, hf⟩ := o_bind hf
      refine r_iald hC hP 1 rfl h5 d_Scene_canPutOn_12 ?_
      refine lv_if_le (tgt := 20) hx hb d_Scene_canPutOn_13 (by decide) (fun c6 => ?_) (fun c6 => ?_)
      · have hf := o_pos c6 hf
        exact B_20 _ _ _ hP hD hS (lv_sub hl [] rfl) hf
      · have hf := o_neg c6 hf
        refine lv_iconst (v := 1) hx hb d_Scene_canPutOn_16 (by decide) ?_
        refine lv_goto (tgt := 21) hx hb d_Scene_canPutOn_17 (by decide) ?_
        exact B_21 1 _ _ _ hP hD hS (lv_sub hl [] rfl) hf
  exact E _ _ hP hS
set_option maxHeartbeats 4000000 in
set_option maxRecDepth 100000 in
theorem c_Scene_putOn (l : Launch) (D : va_G) (cI cZ : ClassId) (a_p0 a_off z_waited : Nat) (i1 : Int32) (v_nights : Int32) (v_off : Nat → Int32) (res : Int32 × (Nat → Int32)) (hf : f_Scene_putOn i1 v_off = some res) : CtI l y_Scene_putOn b_Scene_putOn 3 (some .boolean) 2 D cI cZ [.ref a_p0, .int i1] (cs_Scene_putOn cI cZ a_p0 a_off z_waited v_nights v_off) res.1 (cs_Scene_putOn cI cZ a_p0 a_off z_waited v_nights res.2) := by
  refine CtI_mk (by decide) (Nat.le_of_ble_eq_true rfl) ?_
  intro p e s m args below meth c A Q hC hA hP hD RET ls hl
  have hC : Cx p s m args meth c b_Scene_putOn 3 R_Scene D cI cZ := hC
  have hl : lv_has ls 3 [(0, .ref a_p0), (1, .int i1)] := hl
  obtain ⟨hx, hb, hml, hown, hts, hlk, hKK⟩ := id hC
  have hS : va_S A s.heap s.heap [] := va_S.rf
  have B_20 : ∀  (x2 : Int32) (v_off : Nat → Int32) (H : Heap) (locs : List Loc) (ls : Array Slot), va_P D classes (cs_Scene_putOn cI cZ a_p0 a_off z_waited v_nights v_off) H → va_D A (cs_Scene_putOn cI cZ a_p0 a_off z_waited v_nights v_off) → va_S A s.heap H locs → lv_has ls 3 [(2, .int x2)] → f_Scene_putOn_20   x2 v_off = some res → W p l e (rm_ 2 (40 * 2)) s m args below meth c H locs 0 0 Q (F0 m 20 ls []) := by
    intro  x2 v_off H locs ls hP hD hS hl hf
    unfold f_Scene_putOn_20 at hf
    refine lv_iload_n hx hb d_Scene_putOn_20 rfl (lv_at hl 0 rfl) ?_
    obtain ⟨h1, hf⟩ := o_ite hf
    have hr := Option.some.inj hf
    exact RET _ _ _ _ _ _ (narB h1) (congrArg (fun r : Int32 × (Nat → Int32) => r.1) hr) (congrArg (fun r : Int32 × (Nat → Int32) => (cs_Scene_putOn cI cZ a_p0 a_off z_waited v_nights r.2)) hr) hP hD hS d_Scene_putOn_21
  unfold f_Scene_putOn at hf
  have E : ∀ (H : Heap) (locs : List Loc), va_P D classes (cs_Scene_putOn cI cZ a_p0 a_off z_waited v_nights v_off) H → va_S A s.heap H locs → W p l e (rm_ 2 (40 * 2)) s m args below meth c H locs 0 0 Q (F0 m 0 ls []) := by
    intro H locs hP hS
    refine lv_aload_n hx hb d_Scene_putOn_0 rfl (lv_at hl 0 rfl) ?_
    refine lv_iload_n hx hb d_Scene_putOn_1 rfl (lv_at hl 1 rfl) ?_
    obtain ⟨r1, h2, hf⟩ := o_bind hf
    refine cVi (rest := []) (wr := []) (wn := (cs_Scene_putOn cI cZ a_p0 a_off z_waited v_nights v_off)) (c_Scene_canPutOn l D cI cZ a_p0 a_off z_waited i1 v_nights v_off r1 h2) hC hA hP hD hS hl.1 cw_Scene_41 0 rfl rfl rfl ⟨Nat.le_of_ble_eq_true rfl, Nat.le_of_ble_eq_true rfl⟩ rfl rfl (Nat.le_of_ble_eq_true rfl) d_Scene_putOn_2 ⟨Nat.zero_le _, Nat.zero_le _⟩ [0, 1] [] [0, 1] (by decide) (Cut_mk rfl rfl (by decide) (by decide) (by decide) rfl) (fun H locs hP hD hS => ?_)
    refine lv_istore_n (lv' := [(2, .int r1), (0, .ref a_p0), (1, .int i1)]) hx hb d_Scene_putOn_5 rfl hl (by decide) rfl (fun ls hl => ?_)
    refine lv_iload_n hx hb d_Scene_putOn_6 rfl (lv_at hl 0 rfl) ?_
    refine lv_if_eq (tgt := 20) hx hb d_Scene_putOn_7 (by decide) (fun c3 => ?_) (fun c3 => ?_)
    · have hf := o_pos c3 hf
      exact B_20 r1 v_off _ _ _ hP hD hS (lv_sub hl [0] rfl) hf
    · have hf := o_neg c3 hf
      refine lv_aload_n hx hb d_Scene_putOn_10 rfl (lv_at hl 1 rfl) ?_
      refine gf_Scene_9 hC hP 0 rfl rfl d_Scene_putOn_11 ?_
      refine lv_iload_n hx hb d_Scene_putOn_14 rfl (lv_at hl 2 rfl) ?_
      refine lv_dup2_11 hx hb d_Scene_putOn_15 rfl rfl ?_
      obtain ⟨v4, h5, hf⟩ := o_bind hf
      refine r_iald hC hP 1 rfl h5 d_Scene_putOn_16 ?_
      refine lv_iconst (v := 1) hx hb d_Scene_putOn_17 (by decide) ?_
      refine lv_isub hx hb d_Scene_putOn_18 ?_
      obtain ⟨g6, h7, hf⟩ := o_bind hf
      refine r_iast hC hP hD hS 1 rfl h7 d_Scene_putOn_19 (fun H locs hP hD hS => ?_)
      have hP : va_P D classes (cs_Scene_putOn cI cZ a_p0 a_off z_waited v_nights g6) H := hP
      have hD : va_D A (cs_Scene_putOn cI cZ a_p0 a_off z_waited v_nights g6) := hD
      exact B_20 r1 g6 _ _ _ hP hD hS (lv_sub hl [0] rfl) hf
  exact E _ _ hP hS
set_option maxHeartbeats 4000000 in
set_option maxRecDepth 100000 in
theorem c_Scene_first (l : Launch) (D : va_G) (cI cZ : ClassId) (a_p0 a_waited z_off : Nat) (v_nights : Int32) (v_waited : Nat → Int32) (res : Int32) (hf : f_Scene_first v_waited = some res) : CtI l y_Scene_first b_Scene_first 1 (some .int) 2 D cI cZ [.ref a_p0] (cs_Scene_first cI cZ a_p0 a_waited z_off v_nights v_waited) res (cs_Scene_first cI cZ a_p0 a_waited z_off v_nights v_waited) := by
  refine CtI_mk (by decide) (Nat.le_of_ble_eq_true rfl) ?_
  intro p e s m args below meth c A Q hC hA hP hD RET ls hl
  have hC : Cx p s m args meth c b_Scene_first 1 R_Scene D cI cZ := hC
  have hl : lv_has ls 1 [(0, .ref a_p0)] := hl
  obtain ⟨hx, hb, hml, hown, hts, hlk, hKK⟩ := id hC
  have hS : va_S A s.heap s.heap [] := va_S.rf
  unfold f_Scene_first at hf
  have E : ∀ (H : Heap) (locs : List Loc), va_P D classes (cs_Scene_first cI cZ a_p0 a_waited z_off v_nights v_waited) H → va_S A s.heap H locs → W p l e (rm_ 2 (40 * 2)) s m args below meth c H locs 0 0 Q (F0 m 0 ls []) := by
    intro H locs hP hS
    refine lv_aload_n hx hb d_Scene_first_0 rfl (lv_at hl 0 rfl) ?_
    refine lv_aload_n hx hb d_Scene_first_1 rfl (lv_at hl 0 rfl) ?_
    obtain ⟨r1, h2, hf⟩ := o_bind hf
    refine cVi (rest := [.ref a_p0]) (wr := []) (wn := (cs_Scene_first cI cZ a_p0 a_waited z_off v_nights v_waited)) (c_Scene_waiting l D cI cZ a_p0 a_waited z_off v_nights v_waited r1 h2) hC hA hP hD hS hl.1 cw_Scene_44 0 rfl rfl rfl ⟨Nat.le_of_ble_eq_true rfl, Nat.le_of_ble_eq_true rfl⟩ rfl rfl (Nat.le_of_ble_eq_true rfl) d_Scene_first_2 ⟨Nat.zero_le _, Nat.zero_le _⟩ [0, 1] [] [0, 1] (by decide) (Cut_mk rfl rfl (by decide) (by decide) (by decide) rfl) (fun H locs hP hD hS => ?_)
    obtain ⟨r3, h4, hf⟩ := o_bind hf
    refine cVi (rest := []) (wr := []) (wn := (cs_Scene_first cI cZ a_p0 a_waited z_off v_nights v_waited)) (c_Scene_firstOf l D cI cZ a_p0 a_waited z_off r1 v_nights v_waited r3 h4) hC hA hP hD hS hl.1 cw_Scene_48 0 rfl rfl rfl ⟨Nat.le_of_ble_eq_true rfl, Nat.le_of_ble_eq_true rfl⟩ rfl rfl (Nat.le_of_ble_eq_true rfl) d_Scene_first_5 ⟨Nat.zero_le _, Nat.zero_le _⟩ [0, 1] [] [0, 1] (by decide) (Cut_mk rfl rfl (by decide) (by decide) (by decide) rfl) (fun H locs hP hD hS => ?_)
    have hr := Option.some.inj hf
    exact RET _ _ _ _ _ _ rfl (congrArg (fun r : Int32 => r) hr) rfl hP hD hS d_Scene_first_8
  exact E _ _ hP hS
set_option maxHeartbeats 4000000 in
set_option maxRecDepth 100000 in
theorem c_Scene_letGo (l : Launch) (D : va_G) (cI cZ : ClassId) (a_p0 a_waited z_off : Nat) (i1 : Int32) (v_nights : Int32) (v_waited : Nat → Int32) (res : Int32 × (Nat → Int32)) (hf : f_Scene_letGo i1 v_waited = some res) : CtI l y_Scene_letGo b_Scene_letGo 3 (some .boolean) 1 D cI cZ [.ref a_p0, .int i1] (cs_Scene_letGo cI cZ a_p0 a_waited z_off v_nights v_waited) res.1 (cs_Scene_letGo cI cZ a_p0 a_waited z_off v_nights res.2) := by
  refine CtI_mk (by decide) (Nat.le_of_ble_eq_true rfl) ?_
  intro p e s m args below meth c A Q hC hA hP hD RET ls hl
  have hC : Cx p s m args meth c b_Scene_letGo 3 R_Scene D cI cZ := hC
  have hl : lv_has ls 3 [(0, .ref a_p0), (1, .int i1)] := hl
  obtain ⟨hx, hb, hml, hown, hts, hlk, hKK⟩ := id hC
  have hS : va_S A s.heap s.heap [] := va_S.rf
  have B_28 : ∀  (x2 : Int32) (v_waited : Nat → Int32) (H : Heap) (locs : List Loc) (ls : Array Slot), va_P D classes (cs_Scene_letGo cI cZ a_p0 a_waited z_off v_nights v_waited) H → va_D A (cs_Scene_letGo cI cZ a_p0 a_waited z_off v_nights v_waited) → va_S A s.heap H locs → lv_has ls 3 [(2, .int x2)] → f_Scene_letGo_28   x2 v_waited = some res → W p l e (rm_ 1 (40 * 1)) s m args below meth c H locs 0 0 Q (F0 m 28 ls []) := by
    intro  x2 v_waited H locs ls hP hD hS hl hf
    unfold f_Scene_letGo_28 at hf
    refine lv_iload_n hx hb d_Scene_letGo_28 rfl (lv_at hl 0 rfl) ?_
    obtain ⟨h1, hf⟩ := o_ite hf
    have hr := Option.some.inj hf
    exact RET _ _ _ _ _ _ (narB h1) (congrArg (fun r : Int32 × (Nat → Int32) => r.1) hr) (congrArg (fun r : Int32 × (Nat → Int32) => (cs_Scene_letGo cI cZ a_p0 a_waited z_off v_nights r.2)) hr) hP hD hS d_Scene_letGo_29
  have B_15 : ∀  (x1 : Int32) (w0 : Int32) (v_waited : Nat → Int32) (H : Heap) (locs : List Loc) (ls : Array Slot), va_P D classes (cs_Scene_letGo cI cZ a_p0 a_waited z_off v_nights v_waited) H → va_D A (cs_Scene_letGo cI cZ a_p0 a_waited z_off v_nights v_waited) → va_S A s.heap H locs → lv_has ls 3 [(0, .ref a_p0), (1, .int x1)] → f_Scene_letGo_15   x1 w0 v_waited = some res → W p l e (rm_ 1 (40 * 1)) s m args below meth c H locs 0 0 Q (F0 m 15 ls [.int w0]) := by
    intro  x1 w0 v_waited H locs ls hP hD hS hl hf
    unfold f_Scene_letGo_15 at hf
    refine lv_istore_n (lv' := [(2, .int w0), (0, .ref a_p0), (1, .int x1)]) hx hb d_Scene_letGo_15 rfl hl (by decide) rfl (fun ls hl => ?_)
    refine lv_iload_n hx hb d_Scene_letGo_16 rfl (lv_at hl 0 rfl) ?_
    refine lv_if_eq (tgt := 28) hx hb d_Scene_letGo_17 (by decide) (fun c1 => ?_) (fun c1 => ?_)
    · have hf := o_pos c1 hf
      exact B_28 w0 v_waited _ _ _ hP hD hS (lv_sub hl [0] rfl) hf
    · have hf := o_neg c1 hf
      refine lv_aload_n hx hb d_Scene_letGo_20 rfl (lv_at hl 1 rfl) ?_
      refine gf_Scene_15 hC hP 0 rfl rfl d_Scene_letGo_21 ?_
      refine lv_iload_n hx hb d_Scene_letGo_24 rfl (lv_at hl 2 rfl) ?_
      refine lv_bipush (v := (-9)) hx hb d_Scene_letGo_25 (by decide) ?_
      obtain ⟨g2, h3, hf⟩ := o_bind hf
      refine r_iast hC hP hD hS 1 rfl h3 d_Scene_letGo_27 (fun H locs hP hD hS => ?_)
      have hP : va_P D classes (cs_Scene_letGo cI cZ a_p0 a_waited z_off v_nights g2) H := hP
      have hD : va_D A (cs_Scene_letGo cI cZ a_p0 a_waited z_off v_nights g2) := hD
      exact B_28 w0 g2 _ _ _ hP hD hS (lv_sub hl [0] rfl) hf
  unfold f_Scene_letGo at hf
  have E : ∀ (H : Heap) (locs : List Loc), va_P D classes (cs_Scene_letGo cI cZ a_p0 a_waited z_off v_nights v_waited) H → va_S A s.heap H locs → W p l e (rm_ 1 (40 * 1)) s m args below meth c H locs 0 0 Q (F0 m 0 ls []) := by
    intro H locs hP hS
    refine lv_aload_n hx hb d_Scene_letGo_0 rfl (lv_at hl 0 rfl) ?_
    refine lv_iload_n hx hb d_Scene_letGo_1 rfl (lv_at hl 1 rfl) ?_
    obtain ⟨r1, h2, hf⟩ := o_bind hf
    refine cVi (rest := []) (wr := []) (wn := (cs_Scene_letGo cI cZ a_p0 a_waited z_off v_nights v_waited)) (c_Scene_waited l D cI cZ a_p0 a_waited z_off i1 v_nights v_waited r1 h2) hC hA hP hD hS hl.1 cw_Scene_52 0 rfl rfl rfl ⟨Nat.le_of_ble_eq_true rfl, Nat.le_of_ble_eq_true rfl⟩ rfl rfl (Nat.le_of_ble_eq_true rfl) d_Scene_letGo_2 ⟨Nat.zero_le _, Nat.zero_le _⟩ [0, 1] [] [0, 1] (by decide) (Cut_mk rfl rfl (by decide) (by decide) (by decide) rfl) (fun H locs hP hD hS => ?_)
    refine lv_bipush (v := (-9)) hx hb d_Scene_letGo_5 (by decide) ?_
    refine lv_icmp_eq (tgt := 14) hx hb d_Scene_letGo_7 (by decide) (fun c3 => ?_) (fun c3 => ?_)
    · have hf := o_pos c3 hf
      refine lv_iconst (v := 0) hx hb d_Scene_letGo_14 (by decide) ?_
      exact B_15 i1 0 v_waited _ _ _ hP hD hS (lv_sub hl [0, 1] rfl) hf
    · have hf := o_neg c3 hf
      refine lv_iconst (v := 1) hx hb d_Scene_letGo_10 (by decide) ?_
      refine lv_goto (tgt := 15) hx hb d_Scene_letGo_11 (by decide) ?_
      exact B_15 i1 1 v_waited _ _ _ hP hD hS (lv_sub hl [0, 1] rfl) hf
  exact E _ _ hP hS
set_option maxHeartbeats 4000000 in
set_option maxRecDepth 100000 in
theorem c_Shelf_take (l : Launch) (D : va_G) (cI cZ : ClassId) (a_p0 a_cells a_p2 a_p2_off a_p2_waited n_cells : Nat) (i1 : Int32) (v_places : Int32) (v_cells : Nat → Int32) (v_p2_nights : Int32) (v_p2_off : Nat → Int32) (v_p2_waited : Nat → Int32) (res : Int32 × (Nat → Int32) × (Nat → Int32)) (hf : f_Shelf_take i1 n_cells v_places v_cells v_p2_nights v_p2_off v_p2_waited = some res) : CtV l y_Shelf_take b_Shelf_take 4 none 1 D cI cZ [.ref a_p0, .int i1, .ref a_p2] (cs_Shelf_take cI cZ a_p0 a_cells a_p2 a_p2_off a_p2_waited n_cells v_places v_cells v_p2_nights v_p2_off v_p2_waited) (cs_Shelf_take cI cZ a_p0 a_cells a_p2 a_p2_off a_p2_waited n_cells v_places v_cells res.1 res.2.1 res.2.2) := by
  refine CtV_mk (by decide) (Nat.le_of_ble_eq_true rfl) ?_
  intro p e s m args below meth c A Q hC hA hP hD RET ls hl
  have hC : Cx p s m args meth c b_Shelf_take 4 R_Shelf D cI cZ := hC
  have hl : lv_has ls 4 [(0, .ref a_p0), (1, .int i1), (2, .ref a_p2)] := hl
  obtain ⟨hx, hb, hml, hown, hts, hlk, hKK⟩ := id hC
  have hS : va_S A s.heap s.heap [] := va_S.rf
  have B_12 : ∀  (v_p2_nights : Int32) (v_p2_off : Nat → Int32) (v_p2_waited : Nat → Int32) (H : Heap) (locs : List Loc) (ls : Array Slot), va_P D classes (cs_Shelf_take cI cZ a_p0 a_cells a_p2 a_p2_off a_p2_waited n_cells v_places v_cells v_p2_nights v_p2_off v_p2_waited) H → va_D A (cs_Shelf_take cI cZ a_p0 a_cells a_p2 a_p2_off a_p2_waited n_cells v_places v_cells v_p2_nights v_p2_off v_p2_waited) → va_S A s.heap H locs → lv_has ls 4 [] → f_Shelf_take_12  n_cells v_places v_cells v_p2_nights v_p2_off v_p2_waited = some res → W p l e (rm_ 1 (40 * 1)) s m args below meth c H locs 0 0 Q (F0 m 12 ls []) := by
    intro  v_p2_nights v_p2_off v_p2_waited H locs ls hP hD hS hl hf
    unfold f_Shelf_take_12 at hf
    have hr := Option.some.inj hf
    exact RET _ _ _ _ _ (congrArg (fun r : Int32 × (Nat → Int32) × (Nat → Int32) => (cs_Shelf_take cI cZ a_p0 a_cells a_p2 a_p2_off a_p2_waited n_cells v_places v_cells r.1 r.2.1 r.2.2)) hr) hP hD hS d_Shelf_take_12
  unfold f_Shelf_take at hf
  have E : ∀ (H : Heap) (locs : List Loc), va_P D classes (cs_Shelf_take cI cZ a_p0 a_cells a_p2 a_p2_off a_p2_waited n_cells v_places v_cells v_p2_nights v_p2_off v_p2_waited) H → va_S A s.heap H locs → W p l e (rm_ 1 (40 * 1)) s m args below meth c H locs 0 0 Q (F0 m 0 ls []) := by
    intro H locs hP hS
    refine lv_iload_n hx hb d_Shelf_take_0 rfl (lv_at hl 1 rfl) ?_
    refine lv_if_lt (tgt := 12) hx hb d_Shelf_take_1 (by decide) (fun c1 => ?_) (fun c1 => ?_)
    · have hf := o_pos c1 hf
      exact B_12 v_p2_nights v_p2_off v_p2_waited _ _ _ hP hD hS (lv_sub hl [] rfl) hf
    · have hf := o_neg c1 hf
      refine lv_iload_n hx hb d_Shelf_take_4 rfl (lv_at hl 1 rfl) ?_
      refine lv_aload_n hx hb d_Shelf_take_5 rfl (lv_at hl 0 rfl) ?_
      refine gf_Shelf_15 hC hP 0 rfl rfl d_Shelf_take_6 ?_
      refine lv_icmp_lt (tgt := 13) hx hb d_Shelf_take_9 (by decide) (fun c2 => ?_) (fun c2 => ?_)
      · have hf := o_pos c2 hf
        refine lv_iload_n hx hb d_Shelf_take_13 rfl (lv_at hl 1 rfl) ?_
        refine lv_bipush (v := 10) hx hb d_Shelf_take_14 (by decide) ?_
        refine lv_imul hx hb d_Shelf_take_16 ?_
        refine lv_istore_n (lv' := [(3, .int (i1 * 10)), (0, .ref a_p0), (1, .int i1), (2, .ref a_p2)]) hx hb d_Shelf_take_17 rfl hl (by decide) rfl (fun ls hl => ?_)
        refine lv_aload_n hx hb d_Shelf_take_18 rfl (lv_at hl 1 rfl) ?_
        refine gf_Shelf_23 hC hP 0 rfl rfl d_Shelf_take_19 ?_
        refine lv_iload_n hx hb d_Shelf_take_22 rfl (lv_at hl 0 rfl) ?_
        refine lv_aload_n hx hb d_Shelf_take_23 rfl (lv_at hl 3 rfl) ?_
        refine gf_Shelf_27 hC hP 2 rfl rfl d_Shelf_take_24 ?_
        refine lv_iconst (v := 0) hx hb d_Shelf_take_27 (by decide) ?_
        refine lv_iconst (v := 4) hx hb d_Shelf_take_28 (by decide) ?_
        obtain ⟨g3, h4, hf⟩ := o_bind hf
        refine r_copy hC hP hD hS hl.1 g295 g297 g296 g11 1 3 rfl rfl h4 (Nat.le_of_ble_eq_true rfl) (Nat.le_of_ble_eq_true rfl) d_Shelf_take_29 (fun H locs hP hD hS => ?_)
        have hP : va_P D classes (cs_Shelf_take cI cZ a_p0 a_cells a_p2 a_p2_off a_p2_waited n_cells v_places v_cells v_p2_nights g3 v_p2_waited) H := hP
        have hD : va_D A (cs_Shelf_take cI cZ a_p0 a_cells a_p2 a_p2_off a_p2_waited n_cells v_places v_cells v_p2_nights g3 v_p2_waited) := hD
        refine lv_aload_n hx hb d_Shelf_take_32 rfl (lv_at hl 1 rfl) ?_
        refine gf_Shelf_23 hC hP 0 rfl rfl d_Shelf_take_33 ?_
        refine lv_iload_n hx hb d_Shelf_take_36 rfl (lv_at hl 0 rfl) ?_
        refine lv_iconst (v := 4) hx hb d_Shelf_take_37 (by decide) ?_
        refine lv_iadd hx hb d_Shelf_take_38 ?_
        refine lv_aload_n hx hb d_Shelf_take_39 rfl (lv_at hl 3 rfl) ?_
        refine gf_Shelf_36 hC hP 2 rfl rfl d_Shelf_take_40 ?_
        refine lv_iconst (v := 0) hx hb d_Shelf_take_43 (by decide) ?_
        refine lv_iconst (v := 5) hx hb d_Shelf_take_44 (by decide) ?_
        obtain ⟨g5, h6, hf⟩ := o_bind hf
        refine r_copy hC hP hD hS hl.1 g295 g297 g296 g11 1 4 rfl rfl h6 (Nat.le_of_ble_eq_true rfl) (Nat.le_of_ble_eq_true rfl) d_Shelf_take_45 (fun H locs hP hD hS => ?_)
        have hP : va_P D classes (cs_Shelf_take cI cZ a_p0 a_cells a_p2 a_p2_off a_p2_waited n_cells v_places v_cells v_p2_nights g3 g5) H := hP
        have hD : va_D A (cs_Shelf_take cI cZ a_p0 a_cells a_p2 a_p2_off a_p2_waited n_cells v_places v_cells v_p2_nights g3 g5) := hD
        refine lv_aload_n hx hb d_Shelf_take_48 rfl (lv_at hl 3 rfl) ?_
        refine lv_aload_n hx hb d_Shelf_take_49 rfl (lv_at hl 1 rfl) ?_
        refine gf_Shelf_23 hC hP 0 rfl rfl d_Shelf_take_50 ?_
        refine lv_iload_n hx hb d_Shelf_take_53 rfl (lv_at hl 0 rfl) ?_
        refine lv_iconst (v := 4) hx hb d_Shelf_take_54 (by decide) ?_
        refine lv_iadd hx hb d_Shelf_take_55 ?_
        refine lv_iconst (v := 5) hx hb d_Shelf_take_56 (by decide) ?_
        refine lv_iadd hx hb d_Shelf_take_57 ?_
        obtain ⟨v7, h8, hf⟩ := o_bind hf
        refine r_iald hC hP 1 rfl h8 d_Shelf_take_58 ?_
        refine pf_Shelf_39 hC hP hD hS 2 rfl (Nat.le_of_ble_eq_true rfl) d_Shelf_take_59 (fun H locs hP hD hS => ?_)
        have hP : va_P D classes (cs_Shelf_take cI cZ a_p0 a_cells a_p2 a_p2_off a_p2_waited n_cells v_places v_cells v7 g3 g5) H := hP
        have hD : va_D A (cs_Shelf_take cI cZ a_p0 a_cells a_p2 a_p2_off a_p2_waited n_cells v_places v_cells v7 g3 g5) := hD
        have hr := Option.some.inj hf
        exact RET _ _ _ _ _ (congrArg (fun r : Int32 × (Nat → Int32) × (Nat → Int32) => (cs_Shelf_take cI cZ a_p0 a_cells a_p2 a_p2_off a_p2_waited n_cells v_places v_cells r.1 r.2.1 r.2.2)) hr) hP hD hS d_Shelf_take_62
      · have hf := o_neg c2 hf
        exact B_12 v_p2_nights v_p2_off v_p2_waited _ _ _ hP hD hS (lv_sub hl [] rfl) hf
  exact E _ _ hP hS
set_option maxHeartbeats 4000000 in
set_option maxRecDepth 100000 in
theorem c_Hand_show (l : Launch) (D : va_G) (cI cZ : ClassId) (a_p0 a_shown : Nat) (i1 : Int32) (i2 : Int32) (v_shown : Nat → Int32) (res : (Nat → Int32)) (hf : f_Hand_show i1 i2 v_shown = some res) : CtV l y_Hand_show b_Hand_show 3 none 1 D cI cZ [.ref a_p0, .int i1, .int i2] (cs_Hand_show cI cZ a_p0 a_shown v_shown) (cs_Hand_show cI cZ a_p0 a_shown res) := by
  refine CtV_mk (by decide) (Nat.le_of_ble_eq_true rfl) ?_
  intro p e s m args below meth c A Q hC hA hP hD RET ls hl
  have hC : Cx p s m args meth c b_Hand_show 3 R_Hand D cI cZ := hC
  have hl : lv_has ls 3 [(0, .ref a_p0), (1, .int i1), (2, .int i2)] := hl
  obtain ⟨hx, hb, hml, hown, hts, hlk, hKK⟩ := id hC
  have hS : va_S A s.heap s.heap [] := va_S.rf
  have B_14 : ∀  (v_shown : Nat → Int32) (H : Heap) (locs : List Loc) (ls : Array Slot), va_P D classes (cs_Hand_show cI cZ a_p0 a_shown v_shown) H → va_D A (cs_Hand_show cI cZ a_p0 a_shown v_shown) → va_S A s.heap H locs → lv_has ls 3 [] → f_Hand_show_14   v_shown = some res → W p l e (rm_ 1 (40 * 1)) s m args below meth c H locs 0 0 Q (F0 m 14 ls []) := by
    intro  v_shown H locs ls hP hD hS hl hf
    unfold f_Hand_show_14 at hf
    have hr := Option.some.inj hf
    exact RET _ _ _ _ _ (congrArg (fun r : (Nat → Int32) => (cs_Hand_show cI cZ a_p0 a_shown r)) hr) hP hD hS d_Hand_show_14
  unfold f_Hand_show at hf
  have E : ∀ (H : Heap) (locs : List Loc), va_P D classes (cs_Hand_show cI cZ a_p0 a_shown v_shown) H → va_S A s.heap H locs → W p l e (rm_ 1 (40 * 1)) s m args below meth c H locs 0 0 Q (F0 m 0 ls []) := by
    intro H locs hP hS
    refine lv_iload_n hx hb d_Hand_show_0 rfl (lv_at hl 1 rfl) ?_
    obtain ⟨r1, h2, hf⟩ := o_bind hf
    refine cNi0 (rest := []) (c_PR_isFinger l D cI cZ i1 r1 h2) hC hA hP hD hS hl.1 cw_Hand_15 ⟨Nat.le_of_ble_eq_true rfl, Nat.le_of_ble_eq_true rfl⟩ rfl rfl (Nat.le_of_ble_eq_true rfl) d_Hand_show_1 ⟨Nat.zero_le _, Nat.zero_le _⟩ (fun H locs hP hS => ?_)
    refine lv_if_eq (tgt := 14) hx hb d_Hand_show_4 (by decide) (fun c3 => ?_) (fun c3 => ?_)
    · have hf := o_pos c3 hf
      exact B_14 v_shown _ _ _ hP hD hS (lv_sub hl [] rfl) hf
    · have hf := o_neg c3 hf
      refine lv_aload_n hx hb d_Hand_show_7 rfl (lv_at hl 0 rfl) ?_
      refine gf_Hand_9 hC hP 0 rfl rfl d_Hand_show_8 ?_
      refine lv_iload_n hx hb d_Hand_show_11 rfl (lv_at hl 1 rfl) ?_
      refine lv_iload_n hx hb d_Hand_show_12 rfl (lv_at hl 2 rfl) ?_
      obtain ⟨g4, h5, hf⟩ := o_bind hf
      refine r_iast hC hP hD hS 1 rfl h5 d_Hand_show_13 (fun H locs hP hD hS => ?_)
      have hP : va_P D classes (cs_Hand_show cI cZ a_p0 a_shown g4) H := hP
      have hD : va_D A (cs_Hand_show cI cZ a_p0 a_shown g4) := hD
      exact B_14 g4 _ _ _ hP hD hS (lv_sub hl [] rfl) hf
  exact E _ _ hP hS
set_option maxHeartbeats 4000000 in
set_option maxRecDepth 100000 in
theorem c_Scene_copy (l : Launch) (D : va_G) (cI cZ : ClassId) (a_p0 a_off a_waited a_p1 a_p1_off a_p1_waited : Nat) (v_nights : Int32) (v_off : Nat → Int32) (v_waited : Nat → Int32) (v_p1_nights : Int32) (v_p1_off : Nat → Int32) (v_p1_waited : Nat → Int32) (res : Int32 × (Nat → Int32) × (Nat → Int32)) (hf : f_Scene_copy v_p1_nights v_p1_off v_p1_waited v_nights v_off v_waited = some res) : CtV l y_Scene_copy b_Scene_copy 2 none 1 D cI cZ [.ref a_p0, .ref a_p1] (cs_Scene_copy cI cZ a_p0 a_off a_waited a_p1 a_p1_off a_p1_waited v_nights v_off v_waited v_p1_nights v_p1_off v_p1_waited) (cs_Scene_copy cI cZ a_p0 a_off a_waited a_p1 a_p1_off a_p1_waited res.1 res.2.1 res.2.2 v_p1_nights v_p1_off v_p1_waited) := by
  refine CtV_mk (by decide) (Nat.le_of_ble_eq_true rfl) ?_
  intro p e s m args below meth c A Q hC hA hP hD RET ls hl
  have hC : Cx p s m args meth c b_Scene_copy 2 R_Scene D cI cZ := hC
  have hl : lv_has ls 2 [(0, .ref a_p0), (1, .ref a_p1)] := hl
  obtain ⟨hx, hb, hml, hown, hts, hlk, hKK⟩ := id hC
  have hS : va_S A s.heap s.heap [] := va_S.rf
  unfold f_Scene_copy at hf
  have E : ∀ (H : Heap) (locs : List Loc), va_P D classes (cs_Scene_copy cI cZ a_p0 a_off a_waited a_p1 a_p1_off a_p1_waited v_nights v_off v_waited v_p1_nights v_p1_off v_p1_waited) H → va_S A s.heap H locs → W p l e (rm_ 1 (40 * 1)) s m args below meth c H locs 0 0 Q (F0 m 0 ls []) := by
    intro H locs hP hS
    refine lv_aload_n hx hb d_Scene_copy_0 rfl (lv_at hl 1 rfl) ?_
    refine gf_Scene_9 hC hP 3 rfl rfl d_Scene_copy_1 ?_
    refine lv_iconst (v := 0) hx hb d_Scene_copy_4 (by decide) ?_
    refine lv_aload_n hx hb d_Scene_copy_5 rfl (lv_at hl 0 rfl) ?_
    refine gf_Scene_9 hC hP 0 rfl rfl d_Scene_copy_6 ?_
    refine lv_iconst (v := 0) hx hb d_Scene_copy_9 (by decide) ?_
    refine lv_iconst (v := 4) hx hb d_Scene_copy_10 (by decide) ?_
    obtain ⟨g1, h2, hf⟩ := o_bind hf
    refine r_copy hC hP hD hS hl.1 g413 g297 g296 g11 4 1 rfl rfl h2 (Nat.le_of_ble_eq_true rfl) (Nat.le_of_ble_eq_true rfl) d_Scene_copy_11 (fun H locs hP hD hS => ?_)
    have hP : va_P D classes (cs_Scene_copy cI cZ a_p0 a_off a_waited a_p1 a_p1_off a_p1_waited v_nights g1 v_waited v_p1_nights v_p1_off v_p1_waited) H := hP
    have hD : va_D A (cs_Scene_copy cI cZ a_p0 a_off a_waited a_p1 a_p1_off a_p1_waited v_nights g1 v_waited v_p1_nights v_p1_off v_p1_waited) := hD
    refine lv_aload_n hx hb d_Scene_copy_14 rfl (lv_at hl 1 rfl) ?_
    refine gf_Scene_15 hC hP 3 rfl rfl d_Scene_copy_15 ?_
    refine lv_iconst (v := 0) hx hb d_Scene_copy_18 (by decide) ?_
    refine lv_aload_n hx hb d_Scene_copy_19 rfl (lv_at hl 0 rfl) ?_
    refine gf_Scene_15 hC hP 0 rfl rfl d_Scene_copy_20 ?_
    refine lv_iconst (v := 0) hx hb d_Scene_copy_23 (by decide) ?_
    refine lv_iconst (v := 5) hx hb d_Scene_copy_24 (by decide) ?_
    obtain ⟨g3, h4, hf⟩ := o_bind hf
    refine r_copy hC hP hD hS hl.1 g413 g297 g296 g11 5 2 rfl rfl h4 (Nat.le_of_ble_eq_true rfl) (Nat.le_of_ble_eq_true rfl) d_Scene_copy_25 (fun H locs hP hD hS => ?_)
    have hP : va_P D classes (cs_Scene_copy cI cZ a_p0 a_off a_waited a_p1 a_p1_off a_p1_waited v_nights g1 g3 v_p1_nights v_p1_off v_p1_waited) H := hP
    have hD : va_D A (cs_Scene_copy cI cZ a_p0 a_off a_waited a_p1 a_p1_off a_p1_waited v_nights g1 g3 v_p1_nights v_p1_off v_p1_waited) := hD
    refine lv_aload_n hx hb d_Scene_copy_28 rfl (lv_at hl 0 rfl) ?_
    refine lv_aload_n hx hb d_Scene_copy_29 rfl (lv_at hl 1 rfl) ?_
    refine gf_Scene_18 hC hP 3 rfl rfl d_Scene_copy_30 ?_
    refine pf_Scene_18 hC hP hD hS 0 rfl (Nat.le_of_ble_eq_true rfl) d_Scene_copy_33 (fun H locs hP hD hS => ?_)
    have hP : va_P D classes (cs_Scene_copy cI cZ a_p0 a_off a_waited a_p1 a_p1_off a_p1_waited v_p1_nights g1 g3 v_p1_nights v_p1_off v_p1_waited) H := hP
    have hD : va_D A (cs_Scene_copy cI cZ a_p0 a_off a_waited a_p1 a_p1_off a_p1_waited v_p1_nights g1 g3 v_p1_nights v_p1_off v_p1_waited) := hD
    have hr := Option.some.inj hf
    exact RET _ _ _ _ _ (congrArg (fun r : Int32 × (Nat → Int32) × (Nat → Int32) => (cs_Scene_copy cI cZ a_p0 a_off a_waited a_p1 a_p1_off a_p1_waited r.1 r.2.1 r.2.2 v_p1_nights v_p1_off v_p1_waited)) hr) hP hD hS d_Scene_copy_36
  exact E _ _ hP hS
set_option maxHeartbeats 4000000 in
set_option maxRecDepth 100000 in
theorem c_Seen_add (l : Launch) (D : va_G) (cI cZ : ClassId) (a_p0 a_rows : Nat) (i1 : Int32) (i2 : Int32) (i3 : Int32) (i4 : Int32) (v_count : Int32) (v_rows : Nat → Int32) (res : Int32 × Int32 × (Nat → Int32)) (hf : f_Seen_add i1 i2 i3 i4 v_count v_rows = some res) : CtI l y_Seen_add b_Seen_add 6 (some .boolean) 0 D cI cZ [.ref a_p0, .int i1, .int i2, .int i3, .int i4] (cs_Seen_add cI cZ a_p0 a_rows v_count v_rows) res.1 (cs_Seen_add cI cZ a_p0 a_rows res.2.1 res.2.2) := by
  refine CtI_mk (by decide) (Nat.le_of_ble_eq_true rfl) ?_
  intro p e s m args below meth c A Q hC hA hP hD RET ls hl
  have hC : Cx p s m args meth c b_Seen_add 6 R_Seen D cI cZ := hC
  have hl : lv_has ls 6 [(0, .ref a_p0), (1, .int i1), (2, .int i2), (3, .int i3), (4, .int i4)] := hl
  obtain ⟨hx, hb, hml, hown, hts, hlk, hKK⟩ := id hC
  have hS : va_S A s.heap s.heap [] := va_S.rf
  unfold f_Seen_add at hf
  have E : ∀ (H : Heap) (locs : List Loc), va_P D classes (cs_Seen_add cI cZ a_p0 a_rows v_count v_rows) H → va_S A s.heap H locs → W p l e (rm_ 0 (40 * 0)) s m args below meth c H locs 0 0 Q (F0 m 0 ls []) := by
    intro H locs hP hS
    refine lv_aload_n hx hb d_Seen_add_0 rfl (lv_at hl 0 rfl) ?_
    refine gf_Seen_15 hC hP 0 rfl rfl d_Seen_add_1 ?_
    refine lv_bipush (v := 6) hx hb d_Seen_add_4 (by decide) ?_
    refine lv_icmp_lt (tgt := 11) hx hb d_Seen_add_6 (by decide) (fun c1 => ?_) (fun c1 => ?_)
    · have hf := o_pos c1 hf
      refine lv_aload_n hx hb d_Seen_add_11 rfl (lv_at hl 0 rfl) ?_
      refine gf_Seen_15 hC hP 0 rfl rfl d_Seen_add_12 ?_
      refine lv_iconst (v := 4) hx hb d_Seen_add_15 (by decide) ?_
      refine lv_imul hx hb d_Seen_add_16 ?_
      refine lv_istore (lv' := [(5, .int (v_count * 4)), (0, .ref a_p0), (1, .int i1), (2, .int i2), (3, .int i3), (4, .int i4)]) hx hb d_Seen_add_17 hl (by decide) rfl (fun ls hl => ?_)
      refine lv_aload_n hx hb d_Seen_add_19 rfl (lv_at hl 1 rfl) ?_
      refine gf_Seen_11 hC hP 0 rfl rfl d_Seen_add_20 ?_
      refine lv_iload hx hb d_Seen_add_23 (lv_at hl 0 rfl) ?_
      refine lv_iconst (v := 0) hx hb d_Seen_add_25 (by decide) ?_
      refine lv_iadd hx hb d_Seen_add_26 ?_
      refine lv_iload_n hx hb d_Seen_add_27 rfl (lv_at hl 2 rfl) ?_
      obtain ⟨g2, h3, hf⟩ := o_bind hf
      refine r_iast hC hP hD hS 1 rfl h3 d_Seen_add_28 (fun H locs hP hD hS => ?_)
      have hP : va_P D classes (cs_Seen_add cI cZ a_p0 a_rows v_count g2) H := hP
      have hD : va_D A (cs_Seen_add cI cZ a_p0 a_rows v_count g2) := hD
      refine lv_aload_n hx hb d_Seen_add_29 rfl (lv_at hl 1 rfl) ?_
      refine gf_Seen_11 hC hP 0 rfl rfl d_Seen_add_30 ?_
      refine lv_iload hx hb d_Seen_add_33 (lv_at hl 0 rfl) ?_
      refine lv_iconst (v := 1) hx hb d_Seen_add_35 (by decide) ?_
      refine lv_iadd hx hb d_Seen_add_36 ?_
      refine lv_iload_n hx hb d_Seen_add_37 rfl (lv_at hl 3 rfl) ?_
      obtain ⟨g4, h5, hf⟩ := o_bind hf
      refine r_iast hC hP hD hS 1 rfl h5 d_Seen_add_38 (fun H locs hP hD hS => ?_)
      have hP : va_P D classes (cs_Seen_add cI cZ a_p0 a_rows v_count g4) H := hP
      have hD : va_D A (cs_Seen_add cI cZ a_p0 a_rows v_count g4) := hD
      refine lv_aload_n hx hb d_Seen_add_39 rfl (lv_at hl 1 rfl) ?_
      refine gf_Seen_11 hC hP 0 rfl rfl d_Seen_add_40 ?_
      refine lv_iload hx hb d_Seen_add_43 (lv_at hl 0 rfl) ?_
      refine lv_iconst (v := 2) hx hb d_Seen_add_45 (by decide) ?_
      refine lv_iadd hx hb d_Seen_add_46 ?_
      refine lv_iload_n hx hb d_Seen_add_47 rfl (lv_at hl 4 rfl) ?_
      obtain ⟨g6, h7, hf⟩ := o_bind hf
      refine r_iast hC hP hD hS 1 rfl h7 d_Seen_add_48 (fun H locs hP hD hS => ?_)
      have hP : va_P D classes (cs_Seen_add cI cZ a_p0 a_rows v_count g6) H := hP
      have hD : va_D A (cs_Seen_add cI cZ a_p0 a_rows v_count g6) := hD
      refine lv_aload_n hx hb d_Seen_add_49 rfl (lv_at hl 1 rfl) ?_
      refine gf_Seen_11 hC hP 0 rfl rfl d_Seen_add_50 ?_
      refine lv_iload hx hb d_Seen_add_53 (lv_at hl 0 rfl) ?_
      refine lv_iconst (v := 3) hx hb d_Seen_add_55 (by decide) ?_
      refine lv_iadd hx hb d_Seen_add_56 ?_
      refine lv_iload hx hb d_Seen_add_57 (lv_at hl 5 rfl) ?_
      obtain ⟨g8, h9, hf⟩ := o_bind hf
      refine r_iast hC hP hD hS 1 rfl h9 d_Seen_add_59 (fun H locs hP hD hS => ?_)
      have hP : va_P D classes (cs_Seen_add cI cZ a_p0 a_rows v_count g8) H := hP
      have hD : va_D A (cs_Seen_add cI cZ a_p0 a_rows v_count g8) := hD
      refine lv_aload_n hx hb d_Seen_add_60 rfl (lv_at hl 1 rfl) ?_
      refine lv_dup hx hb d_Seen_add_61 rfl ?_
      refine gf_Seen_15 hC hP 0 rfl rfl d_Seen_add_62 ?_
      refine lv_iconst (v := 1) hx hb d_Seen_add_65 (by decide) ?_
      refine lv_iadd hx hb d_Seen_add_66 ?_
      refine pf_Seen_15 hC hP hD hS 0 rfl (Nat.le_of_ble_eq_true rfl) d_Seen_add_67 (fun H locs hP hD hS => ?_)
      have hP : va_P D classes (cs_Seen_add cI cZ a_p0 a_rows (v_count + 1) g8) H := hP
      have hD : va_D A (cs_Seen_add cI cZ a_p0 a_rows (v_count + 1) g8) := hD
      refine lv_iconst (v := 1) hx hb d_Seen_add_70 (by decide) ?_
      have hr := Option.some.inj hf
      exact RET _ _ _ _ _ _ rfl (congrArg (fun r : Int32 × Int32 × (Nat → Int32) => r.1) hr) (congrArg (fun r : Int32 × Int32 × (Nat → Int32) => (cs_Seen_add cI cZ a_p0 a_rows r.2.1 r.2.2)) hr) hP hD hS d_Seen_add_71
    · have hf := o_neg c1 hf
      refine lv_iconst (v := 0) hx hb d_Seen_add_9 (by decide) ?_
      have hr := Option.some.inj hf
      exact RET _ _ _ _ _ _ rfl (congrArg (fun r : Int32 × Int32 × (Nat → Int32) => r.1) hr) (congrArg (fun r : Int32 × Int32 × (Nat → Int32) => (cs_Seen_add cI cZ a_p0 a_rows r.2.1 r.2.2)) hr) hP hD hS d_Seen_add_10
  exact E _ _ hP hS
set_option maxHeartbeats 4000000 in
set_option maxRecDepth 100000 in
theorem c_Seen_at (l : Launch) (D : va_G) (cI cZ : ClassId) (a_p0 a_rows : Nat) (i1 : Int32) (i2 : Int32) (v_count : Int32) (v_rows : Nat → Int32) (res : Int32) (hf : f_Seen_at i1 i2 v_count v_rows = some res) : CtI l y_Seen_at b_Seen_at 4 (some .int) 0 D cI cZ [.ref a_p0, .int i1, .int i2] (cs_Seen_at cI cZ a_p0 a_rows v_count v_rows) res (cs_Seen_at cI cZ a_p0 a_rows v_count v_rows) := by
  refine CtI_mk (by decide) (Nat.le_of_ble_eq_true rfl) ?_
  intro p e s m args below meth c A Q hC hA hP hD RET ls hl
  have hC : Cx p s m args meth c b_Seen_at 4 R_Seen D cI cZ := hC
  have hl : lv_has ls 4 [(0, .ref a_p0), (1, .int i1), (2, .int i2)] := hl
  obtain ⟨hx, hb, hml, hown, hts, hlk, hKK⟩ := id hC
  have hS : va_S A s.heap s.heap [] := va_S.rf
  have B_46 : ∀  (w0 : Int32) (H : Heap) (locs : List Loc) (ls : Array Slot), va_P D classes (cs_Seen_at cI cZ a_p0 a_rows v_count v_rows) H → va_D A (cs_Seen_at cI cZ a_p0 a_rows v_count v_rows) → va_S A s.heap H locs → lv_has ls 4 [] → f_Seen_at_46  v_count v_rows w0 = some res → W p l e (rm_ 0 (40 * 0)) s m args below meth c H locs 0 0 Q (F0 m 46 ls [.int w0]) := by
    intro  w0 H locs ls hP hD hS hl hf
    unfold f_Seen_at_46 at hf
    have hr := Option.some.inj hf
    exact RET _ _ _ _ _ _ rfl (congrArg (fun r : Int32 => r) hr) rfl hP hD hS d_Seen_at_46
  have B_26 : ∀  (x1 : Int32) (x2 : Int32) (w0 : Int32) (H : Heap) (locs : List Loc) (ls : Array Slot), va_P D classes (cs_Seen_at cI cZ a_p0 a_rows v_count v_rows) H → va_D A (cs_Seen_at cI cZ a_p0 a_rows v_count v_rows) → va_S A s.heap H locs → lv_has ls 4 [(0, .ref a_p0), (1, .int x1), (2, .int x2)] → f_Seen_at_26  v_count v_rows x1 x2 w0 = some res → W p l e (rm_ 0 (40 * 0)) s m args below meth c H locs 0 0 Q (F0 m 26 ls [.int w0]) := by
    intro  x1 x2 w0 H locs ls hP hD hS hl hf
    unfold f_Seen_at_26 at hf
    refine lv_istore_n (lv' := [(3, .int w0), (0, .ref a_p0), (1, .int x1), (2, .int x2)]) hx hb d_Seen_at_26 rfl hl (by decide) rfl (fun ls hl => ?_)
    refine lv_iload_n hx hb d_Seen_at_27 rfl (lv_at hl 0 rfl) ?_
    refine lv_if_eq (tgt := 44) hx hb d_Seen_at_28 (by decide) (fun c1 => ?_) (fun c1 => ?_)
    · have hf := o_pos c1 hf
      refine lv_bipush (v := (-9)) hx hb d_Seen_at_44 (by decide) ?_
      exact B_46 ((-9)) _ _ _ hP hD hS (lv_sub hl [] rfl) hf
    · have hf := o_neg c1 hf
      refine lv_aload_n hx hb d_Seen_at_31 rfl (lv_at hl 1 rfl) ?_
      refine gf_Seen_11 hC hP 0 rfl rfl d_Seen_at_32 ?_
      refine lv_iload_n hx hb d_Seen_at_35 rfl (lv_at hl 2 rfl) ?_
      refine lv_iconst (v := 4) hx hb d_Seen_at_36 (by decide) ?_
      refine lv_imul hx hb d_Seen_at_37 ?_
      refine lv_iload_n hx hb d_Seen_at_38 rfl (lv_at hl 3 rfl) ?_
      refine lv_iadd hx hb d_Seen_at_39 ?_
      obtain ⟨v2, h3, hf⟩ := o_bind hf
      refine r_iald hC hP 1 rfl h3 d_Seen_at_40 ?_
      refine lv_goto (tgt := 46) hx hb d_Seen_at_41 (by decide) ?_
      exact B_46 v2 _ _ _ hP hD hS (lv_sub hl [] rfl) hf
  have B_25 : ∀  (x1 : Int32) (x2 : Int32) (H : Heap) (locs : List Loc) (ls : Array Slot), va_P D classes (cs_Seen_at cI cZ a_p0 a_rows v_count v_rows) H → va_D A (cs_Seen_at cI cZ a_p0 a_rows v_count v_rows) → va_S A s.heap H locs → lv_has ls 4 [(0, .ref a_p0), (1, .int x1), (2, .int x2)] → f_Seen_at_25  v_count v_rows x1 x2 = some res → W p l e (rm_ 0 (40 * 0)) s m args below meth c H locs 0 0 Q (F0 m 25 ls []) := by
    intro  x1 x2 H locs ls hP hD hS hl hf
    unfold f_Seen_at_25 at hf
    refine lv_iconst (v := 0) hx hb d_Seen_at_25 (by decide) ?_
    exact B_26 x1 x2 0 _ _ _ hP hD hS (lv_sub hl [0, 1, 2] rfl) hf
  unfold f_Seen_at at hf
  have E : ∀ (H : Heap) (locs : List Loc), va_P D classes (cs_Seen_at cI cZ a_p0 a_rows v_count v_rows) H → va_S A s.heap H locs → W p l e (rm_ 0 (40 * 0)) s m args below meth c H locs 0 0 Q (F0 m 0 ls []) := by
    intro H locs hP hS
    refine lv_iload_n hx hb d_Seen_at_0 rfl (lv_at hl 1 rfl) ?_
    refine lv_if_lt (tgt := 25) hx hb d_Seen_at_1 (by decide) (fun c1 => ?_) (fun c1 => ?_)
    · have hf := o_pos c1 hf
      exact B_25 i1 i2 _ _ _ hP hD hS (lv_sub hl [0, 1, 2] rfl) hf
    · have hf := o_neg c1 hf
      refine lv_iload_n hx hb d_Seen_at_4 rfl (lv_at hl 1 rfl) ?_
      refine lv_aload_n hx hb d_Seen_at_5 rfl (lv_at hl 0 rfl) ?_
      refine gf_Seen_15 hC hP 0 rfl rfl d_Seen_at_6 ?_
      refine lv_icmp_ge (tgt := 25) hx hb d_Seen_at_9 (by decide) (fun c2 => ?_) (fun c2 => ?_)
      · have hf := o_pos c2 hf
        exact B_25 i1 i2 _ _ _ hP hD hS (lv_sub hl [0, 1, 2] rfl) hf
      · have hf := o_neg c2 hf
        refine lv_iload_n hx hb d_Seen_at_12 rfl (lv_at hl 2 rfl) ?_
        refine lv_if_lt (tgt := 25) hx hb d_Seen_at_13 (by decide) (fun c3 => ?_) (fun c3 => ?_)
        · have hf := o_pos c3 hf
          exact B_25 i1 i2 _ _ _ hP hD hS (lv_sub hl [0, 1, 2] rfl) hf
        · have hf := o_neg c3 hf
          refine lv_iload_n hx hb d_Seen_at_16 rfl (lv_at hl 2 rfl) ?_
          refine lv_iconst (v := 4) hx hb d_Seen_at_17 (by decide) ?_
          refine lv_icmp_ge (tgt := 25) hx hb d_Seen_at_18 (by decide) (fun c4 => ?_) (fun c4 => ?_)
          · have hf := o_pos c4 hf
            exact B_25 i1 i2 _ _ _ hP hD hS (lv_sub hl [0, 1, 2] rfl) hf
          · have hf := o_neg c4 hf
            refine lv_iconst (v := 1) hx hb d_Seen_at_21 (by decide) ?_
            refine lv_goto (tgt := 26) hx hb d_Seen_at_22 (by decide) ?_
            exact B_26 i1 i2 1 _ _ _ hP hD hS (lv_sub hl [0, 1, 2] rfl) hf
  exact E _ _ hP hS
