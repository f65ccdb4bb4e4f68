set_option maxHeartbeats 4000000 in
set_option maxRecDepth 100000 in
theorem c_PM_calledOf (l : Launch) (D : va_G) (cI cZ : ClassId) (a_p0 a_cabman a_shows z_text z_layer z_readLayer z_readCabman z_page z_trial z_book z_kept z_isKept z_seenCabman z_seenFinger z_seenOff z_seenCame z_value : Nat) (i1 : Int32) (v_thrown : Int32) (v_textSize : Int32) (v_place : Int32) (v_cabmen : Int32) (v_readCabmen : Int32) (v_acts : Int32) (v_seen : Int32) (v_seed : Int64) (v_bestCleaning : Int32) (v_bestLayers : Int32) (v_bestMany : Int32) (v_underMany : Int32) (v_underLeast : Int32) (v_restMany : Int32) (v_restFirst : Int32) (v_cabman : Nat → Int32) (v_shows : Nat → Int32) (res : Int32) (hf : f_PM_calledOf i1 v_cabmen v_cabman v_shows = some res) : CtI l y_PM_calledOf b_PM_calledOf 4 (some .int) 2 D cI cZ [.ref a_p0, .int i1] (cs_PM_calledOf cI cZ a_p0 a_cabman a_shows z_text z_layer z_readLayer z_readCabman z_page z_trial z_book z_kept z_isKept z_seenCabman z_seenFinger z_seenOff z_seenCame z_value v_thrown v_textSize v_place v_cabmen v_readCabmen v_acts v_seen v_seed v_bestCleaning v_bestLayers v_bestMany v_underMany v_underLeast v_restMany v_restFirst v_cabman v_shows) res (cs_PM_calledOf cI cZ a_p0 a_cabman a_shows z_text z_layer z_readLayer z_readCabman z_page z_trial z_book z_kept z_isKept z_seenCabman z_seenFinger z_seenOff z_seenCame z_value v_thrown v_textSize v_place v_cabmen v_readCabmen v_acts v_seen v_seed v_bestCleaning v_bestLayers v_bestMany v_underMany v_underLeast v_restMany v_restFirst v_cabman v_shows) := by
  refine CtI_mk (by decide) (Nat.le_of_ble_eq_true rfl) ?_
  intro p e s m args below meth c A Q hC hA hP hD RET ls hl
  have hC : Cx p s m args meth c b_PM_calledOf 4 R_PM D cI cZ := hC
  have hl : lv_has ls 4 [(0, .ref a_p0), (1, .int i1)] := hl
  obtain ⟨hx, hb, hml, hown, hts, hlk, hKK⟩ := id hC
  have hS : va_S A s.heap s.heap [] := va_S.rf
  have B_29 : ∀ (back_4 : Int32 → Int32 → Int32 → Option Int32) (K_4 : ∀ (x1 : Int32) (x2 : Int32) (x3 : Int32) (H : Heap) (locs : List Loc) (ls : Array Slot), va_P D classes (cs_PM_calledOf cI cZ a_p0 a_cabman a_shows z_text z_layer z_readLayer z_readCabman z_page z_trial z_book z_kept z_isKept z_seenCabman z_seenFinger z_seenOff z_seenCame z_value v_thrown v_textSize v_place v_cabmen v_readCabmen v_acts v_seen v_seed v_bestCleaning v_bestLayers v_bestMany v_underMany v_underLeast v_restMany v_restFirst v_cabman v_shows) H → va_D A (cs_PM_calledOf cI cZ a_p0 a_cabman a_shows z_text z_layer z_readLayer z_readCabman z_page z_trial z_book z_kept z_isKept z_seenCabman z_seenFinger z_seenOff z_seenCame z_value v_thrown v_textSize v_place v_cabmen v_readCabmen v_acts v_seen v_seed v_bestCleaning v_bestLayers v_bestMany v_underMany v_underLeast v_restMany v_restFirst v_cabman v_shows) → va_S A s.heap H locs → lv_has ls 4 [(0, .ref a_p0), (1, .int x1), (2, .int x2), (3, .int x3)] → back_4 x1 x2 x3 = some res → W p l e (rm_ 2 (40 * 2)) s m args below meth c H locs 0 0 Q (F0 m 4 ls [])) (x1 : Int32) (x3 : Int32) (w0 : Int32) (w1 : Int32) (H : Heap) (locs : List Loc) (ls : Array Slot), va_P D classes (cs_PM_calledOf cI cZ a_p0 a_cabman a_shows z_text z_layer z_readLayer z_readCabman z_page z_trial z_book z_kept z_isKept z_seenCabman z_seenFinger z_seenOff z_seenCame z_value v_thrown v_textSize v_place v_cabmen v_readCabmen v_acts v_seen v_seed v_bestCleaning v_bestLayers v_bestMany v_underMany v_underLeast v_restMany v_restFirst v_cabman v_shows) H → va_D A (cs_PM_calledOf cI cZ a_p0 a_cabman a_shows z_text z_layer z_readLayer z_readCabman z_page z_trial z_book z_kept z_isKept z_seenCabman z_seenFinger z_seenOff z_seenCame z_value v_thrown v_textSize v_place v_cabmen v_readCabmen v_acts v_seen v_seed v_bestCleaning v_bestLayers v_bestMany v_underMany v_underLeast v_restMany v_restFirst v_cabman v_shows) → va_S A s.heap H locs → lv_has ls 4 [(0, .ref a_p0), (1, .int x1), (3, .int x3)] → f_PM_calledOf_29 back_4 v_cabmen v_cabman v_shows x1 x3 w0 w1 = some res → W p l e (rm_ 2 (40 * 2)) s m args below meth c H locs 0 0 Q (F0 m 29 ls [.int w1, .int w0]) := by
    intro back_4 K_4 x1 x3 w0 w1 H locs ls hP hD hS hl hf
    unfold f_PM_calledOf_29 at hf
    refine lv_ior hx hb d_PM_calledOf_29 ?_
    refine lv_istore_n (lv' := [(2, .int (w0 ||| w1)), (0, .ref a_p0), (1, .int x1), (3, .int x3)]) hx hb d_PM_calledOf_30 rfl hl (by decide) rfl (fun ls hl => ?_)
    refine lv_iinc (v := x3 + 1) (lv' := [(3, .int (x3 + 1)), (2, .int (w0 ||| w1)), (0, .ref a_p0), (1, .int x1)]) hx hb d_PM_calledOf_31 hl (k := 3) rfl (rfl) (by decide) rfl (fun ls hl => ?_)
    refine lv_goto (tgt := 4) hx hb d_PM_calledOf_34 (by decide) ?_
    exact K_4 x1 (w0 ||| w1) (x3 + 1) _ _ _ hP hD hS (lv_sub hl [2, 3, 1, 0] rfl) hf
  have B_4 : ∀  (n : Nat) (x1 : Int32) (x2 : Int32) (x3 : Int32) (H : Heap) (locs : List Loc) (ls : Array Slot), va_P D classes (cs_PM_calledOf cI cZ a_p0 a_cabman a_shows z_text z_layer z_readLayer z_readCabman z_page z_trial z_book z_kept z_isKept z_seenCabman z_seenFinger z_seenOff z_seenCame z_value v_thrown v_textSize v_place v_cabmen v_readCabmen v_acts v_seen v_seed v_bestCleaning v_bestLayers v_bestMany v_underMany v_underLeast v_restMany v_restFirst v_cabman v_shows) H → va_D A (cs_PM_calledOf cI cZ a_p0 a_cabman a_shows z_text z_layer z_readLayer z_readCabman z_page z_trial z_book z_kept z_isKept z_seenCabman z_seenFinger z_seenOff z_seenCame z_value v_thrown v_textSize v_place v_cabmen v_readCabmen v_acts v_seen v_seed v_bestCleaning v_bestLayers v_bestMany v_underMany v_underLeast v_restMany v_restFirst v_cabman v_shows) → va_S A s.heap H locs → lv_has ls 4 [(0, .ref a_p0), (1, .int x1), (2, .int x2), (3, .int x3)] → f_PM_calledOf_4  v_cabmen v_cabman v_shows n x1 x2 x3 = some res → W p l e (rm_ 2 (40 * 2)) s m args below meth c H locs 0 0 Q (F0 m 4 ls []) := by
    intro  n
    induction n with
    | zero => intro x1 x2 x3 H locs ls hP hD hS hl hf; exact nomatch hf
    | succ n ih =>
      intro x1 x2 x3 H locs ls hP hD hS hl hf
      have hf : f_PM_calledOf_4_b  (f_PM_calledOf_4  v_cabmen v_cabman v_shows n) v_cabmen v_cabman v_shows x1 x2 x3 = some res := hf
      generalize f_PM_calledOf_4  v_cabmen v_cabman v_shows n = back_4 at ih hf
      have K_4 := ih
      unfold f_PM_calledOf_4_b at hf
      refine lv_iload_n hx hb d_PM_calledOf_4 rfl (lv_at hl 3 rfl) ?_
      refine lv_aload_n hx hb d_PM_calledOf_5 rfl (lv_at hl 0 rfl) ?_
      refine gf_PM_63 hC hP 0 rfl rfl d_PM_calledOf_6 ?_
      refine lv_icmp_ge (tgt := 37) hx hb d_PM_calledOf_9 (by decide) (fun c1 => ?_) (fun c1 => ?_)
      · have hf := o_pos c1 hf
        refine lv_iload_n hx hb d_PM_calledOf_37 rfl (lv_at hl 2 rfl) ?_
        have hr := Option.some.inj hf
        exact RET _ _ _ _ _ _ rfl (congrArg (fun r : Int32 => r) hr) rfl hP hD hS d_PM_calledOf_38
      · have hf := o_neg c1 hf
        refine lv_iload_n hx hb d_PM_calledOf_12 rfl (lv_at hl 2 rfl) ?_
        refine lv_aload_n hx hb d_PM_calledOf_13 rfl (lv_at hl 0 rfl) ?_
        refine lv_iload_n hx hb d_PM_calledOf_14 rfl (lv_at hl 3 rfl) ?_
        refine lv_iload_n hx hb d_PM_calledOf_15 rfl (lv_at hl 1 rfl) ?_
        obtain ⟨r2, h3, hf⟩ := o_bind hf
        refine cVi (rest := [.int x2]) (wr := []) (wn := (cs_PM_calledOf cI cZ a_p0 a_cabman a_shows z_text z_layer z_readLayer z_readCabman z_page z_trial z_book z_kept z_isKept z_seenCabman z_seenFinger z_seenOff z_seenCame z_value v_thrown v_textSize v_place v_cabmen v_readCabmen v_acts v_seen v_seed v_bestCleaning v_bestLayers v_bestMany v_underMany v_underLeast v_restMany v_restFirst v_cabman v_shows)) (c_PM_isCalled l D cI cZ a_p0 a_cabman a_shows z_text z_layer z_readLayer z_readCabman z_page z_trial z_book z_kept z_isKept z_seenCabman z_seenFinger z_seenOff z_seenCame z_value x3 x1 v_thrown v_textSize v_place v_cabmen v_readCabmen v_acts v_seen v_seed v_bestCleaning v_bestLayers v_bestMany v_underMany v_underLeast v_restMany v_restFirst v_cabman v_shows r2 h3) hC hA hP hD hS hl.1 cw_PM_109 0 rfl rfl rfl ⟨Nat.le_of_ble_eq_true rfl, Nat.le_of_ble_eq_true rfl⟩ rfl rfl (Nat.le_of_ble_eq_true rfl) d_PM_calledOf_16 ⟨Nat.zero_le _, Nat.zero_le _⟩ [0, 1, 2] [] [0, 1, 2] (by decide) (Cut_mk rfl rfl (by decide) (by decide) (by decide) rfl) (fun H locs hP hD hS => ?_)
        refine lv_if_eq (tgt := 28) hx hb d_PM_calledOf_19 (by decide) (fun c4 => ?_) (fun c4 => ?_)
        · have hf := o_pos c4 hf
          refine lv_iconst (v := 0) hx hb d_PM_calledOf_28 (by decide) ?_
          exact B_29 back_4 K_4 x1 x3 x2 0 _ _ _ hP hD hS (lv_sub hl [0, 1, 3] rfl) hf
        · have hf := o_neg c4 hf
          refine lv_iconst (v := 1) hx hb d_PM_calledOf_22 (by decide) ?_
          refine lv_iload_n hx hb d_PM_calledOf_23 rfl (lv_at hl 3 rfl) ?_
          refine lv_ishl hx hb d_PM_calledOf_24 ?_
          refine lv_goto (tgt := 29) hx hb d_PM_calledOf_25 (by decide) ?_
          exact B_29 back_4 K_4 x1 x3 x2 (slI 1 x3) _ _ _ hP hD hS (lv_sub hl [0, 1, 3] rfl) hf
  unfold f_PM_calledOf at hf
  have E : ∀ (H : Heap) (locs : List Loc), va_P D classes (cs_PM_calledOf cI cZ a_p0 a_cabman a_shows z_text z_layer z_readLayer z_readCabman z_page z_trial z_book z_kept z_isKept z_seenCabman z_seenFinger z_seenOff z_seenCame z_value v_thrown v_textSize v_place v_cabmen v_readCabmen v_acts v_seen v_seed v_bestCleaning v_bestLayers v_bestMany v_underMany v_underLeast v_restMany v_restFirst v_cabman v_shows) H → va_S A s.heap H locs → W p l e (rm_ 2 (40 * 2)) s m args below meth c H locs 0 0 Q (F0 m 0 ls []) := by
    intro H locs hP hS
    refine lv_iconst (v := 0) hx hb d_PM_calledOf_0 (by decide) ?_
    refine lv_istore_n (lv' := [(2, .int 0), (0, .ref a_p0), (1, .int i1)]) hx hb d_PM_calledOf_1 rfl hl (by decide) rfl (fun ls hl => ?_)
    refine lv_iconst (v := 0) hx hb d_PM_calledOf_2 (by decide) ?_
    refine lv_istore_n (lv' := [(3, .int 0), (2, .int 0), (0, .ref a_p0), (1, .int i1)]) hx hb d_PM_calledOf_3 rfl hl (by decide) rfl (fun ls hl => ?_)
    exact B_4 300 i1 0 0 _ _ _ hP hD hS (lv_sub hl [2, 3, 1, 0] rfl) hf
  exact E _ _ hP hS
set_option maxHeartbeats 4000000 in
set_option maxRecDepth 100000 in
theorem c_PM_waitsOf (l : Launch) (D : va_G) (cI cZ : ClassId) (a_p0 : Nat) (v_p0 : Nat → Int32) (res : Int32) (hf : f_PM_waitsOf v_p0 = some res) : CtI l y_PM_waitsOf b_PM_waitsOf 3 (some .int) 0 D cI cZ [.ref a_p0] (cs_PM_waitsOf cI cZ a_p0 v_p0) res (cs_PM_waitsOf cI cZ a_p0 v_p0) := by
  refine CtI_mk (by decide) (Nat.le_of_ble_eq_true rfl) ?_
  intro p e s m args below meth c A Q hC hA hP hD RET ls hl
  have hC : Cx p s m args meth c b_PM_waitsOf 3 R_PM D cI cZ := hC
  have hl : lv_has ls 3 [(0, .ref a_p0)] := hl
  obtain ⟨hx, hb, hml, hown, hts, hlk, hKK⟩ := id hC
  have hS : va_S A s.heap s.heap [] := va_S.rf
  have B_28 : ∀ (back_4 : Int32 → Int32 → Option Int32) (K_4 : ∀ (x1 : Int32) (x2 : Int32) (H : Heap) (locs : List Loc) (ls : Array Slot), va_P D classes (cs_PM_waitsOf cI cZ a_p0 v_p0) H → va_D A (cs_PM_waitsOf cI cZ a_p0 v_p0) → va_S A s.heap H locs → lv_has ls 3 [(0, .ref a_p0), (1, .int x1), (2, .int x2)] → back_4 x1 x2 = some res → W p l e (rm_ 0 (40 * 0)) s m args below meth c H locs 0 0 Q (F0 m 4 ls [])) (x2 : Int32) (w0 : Int32) (w1 : Int32) (H : Heap) (locs : List Loc) (ls : Array Slot), va_P D classes (cs_PM_waitsOf cI cZ a_p0 v_p0) H → va_D A (cs_PM_waitsOf cI cZ a_p0 v_p0) → va_S A s.heap H locs → lv_has ls 3 [(0, .ref a_p0), (2, .int x2)] → f_PM_waitsOf_28 back_4 v_p0 x2 w0 w1 = some res → W p l e (rm_ 0 (40 * 0)) s m args below meth c H locs 0 0 Q (F0 m 28 ls [.int w1, .int w0]) := by
    intro back_4 K_4 x2 w0 w1 H locs ls hP hD hS hl hf
    unfold f_PM_waitsOf_28 at hf
    refine lv_ior hx hb d_PM_waitsOf_28 ?_
    refine lv_istore_n (lv' := [(1, .int (w0 ||| w1)), (0, .ref a_p0), (2, .int x2)]) hx hb d_PM_waitsOf_29 rfl hl (by decide) rfl (fun ls hl => ?_)
    refine lv_iinc (v := x2 + 1) (lv' := [(2, .int (x2 + 1)), (1, .int (w0 ||| w1)), (0, .ref a_p0)]) hx hb d_PM_waitsOf_30 hl (k := 2) rfl (rfl) (by decide) rfl (fun ls hl => ?_)
    refine lv_goto (tgt := 4) hx hb d_PM_waitsOf_33 (by decide) ?_
    exact K_4 (w0 ||| w1) (x2 + 1) _ _ _ hP hD hS (lv_sub hl [2, 1, 0] rfl) hf
  have B_4 : ∀  (n : Nat) (x1 : Int32) (x2 : Int32) (H : Heap) (locs : List Loc) (ls : Array Slot), va_P D classes (cs_PM_waitsOf cI cZ a_p0 v_p0) H → va_D A (cs_PM_waitsOf cI cZ a_p0 v_p0) → va_S A s.heap H locs → lv_has ls 3 [(0, .ref a_p0), (1, .int x1), (2, .int x2)] → f_PM_waitsOf_4  v_p0 n x1 x2 = some res → W p l e (rm_ 0 (40 * 0)) s m args below meth c H locs 0 0 Q (F0 m 4 ls []) := by
    intro  n
    induction n with
    | zero => intro x1 x2 H locs ls hP hD hS hl hf; exact nomatch hf
    | succ n ih =>
      intro x1 x2 H locs ls hP hD hS hl hf
      have hf : f_PM_waitsOf_4_b  (f_PM_waitsOf_4  v_p0 n) v_p0 x1 x2 = some res := hf
      generalize f_PM_waitsOf_4  v_p0 n = back_4 at ih hf
      have K_4 := ih
      unfold f_PM_waitsOf_4_b at hf
      refine lv_iload_n hx hb d_PM_waitsOf_4 rfl (lv_at hl 2 rfl) ?_
      refine lv_iconst (v := 5) hx hb d_PM_waitsOf_5 (by decide) ?_
      refine lv_icmp_ge (tgt := 36) hx hb d_PM_waitsOf_6 (by decide) (fun c1 => ?_) (fun c1 => ?_)
      · have hf := o_pos c1 hf
        refine lv_iload_n hx hb d_PM_waitsOf_36 rfl (lv_at hl 1 rfl) ?_
        have hr := Option.some.inj hf
        exact RET _ _ _ _ _ _ rfl (congrArg (fun r : Int32 => r) hr) rfl hP hD hS d_PM_waitsOf_37
      · have hf := o_neg c1 hf
        refine lv_iload_n hx hb d_PM_waitsOf_9 rfl (lv_at hl 1 rfl) ?_
        refine lv_aload_n hx hb d_PM_waitsOf_10 rfl (lv_at hl 0 rfl) ?_
        refine lv_bipush (v := 10) hx hb d_PM_waitsOf_11 (by decide) ?_
        refine lv_iload_n hx hb d_PM_waitsOf_13 rfl (lv_at hl 2 rfl) ?_
        refine lv_iadd hx hb d_PM_waitsOf_14 ?_
        obtain ⟨v2, h3, hf⟩ := o_bind hf
        refine r_iald hC hP 0 rfl h3 d_PM_waitsOf_15 ?_
        refine lv_bipush (v := (-9)) hx hb d_PM_waitsOf_16 (by decide) ?_
        refine lv_icmp_ne (tgt := 25) hx hb d_PM_waitsOf_18 (by decide) (fun c4 => ?_) (fun c4 => ?_)
        · have hf := o_neg c4 hf
          refine lv_iconst (v := 1) hx hb d_PM_waitsOf_25 (by decide) ?_
          refine lv_iload_n hx hb d_PM_waitsOf_26 rfl (lv_at hl 2 rfl) ?_
          refine lv_ishl hx hb d_PM_waitsOf_27 ?_
          exact B_28 back_4 K_4 x2 x1 (slI 1 x2) _ _ _ hP hD hS (lv_sub hl [0, 2] rfl) hf
        · have hf := o_pos c4 hf
          refine lv_iconst (v := 0) hx hb d_PM_waitsOf_21 (by decide) ?_
          refine lv_goto (tgt := 28) hx hb d_PM_waitsOf_22 (by decide) ?_
          exact B_28 back_4 K_4 x2 x1 0 _ _ _ hP hD hS (lv_sub hl [0, 2] rfl) hf
  unfold f_PM_waitsOf at hf
  have E : ∀ (H : Heap) (locs : List Loc), va_P D classes (cs_PM_waitsOf cI cZ a_p0 v_p0) H → va_S A s.heap H locs → W p l e (rm_ 0 (40 * 0)) s m args below meth c H locs 0 0 Q (F0 m 0 ls []) := by
    intro H locs hP hS
    refine lv_iconst (v := 0) hx hb d_PM_waitsOf_0 (by decide) ?_
    refine lv_istore_n (lv' := [(1, .int 0), (0, .ref a_p0)]) hx hb d_PM_waitsOf_1 rfl hl (by decide) rfl (fun ls hl => ?_)
    refine lv_iconst (v := 0) hx hb d_PM_waitsOf_2 (by decide) ?_
    refine lv_istore_n (lv' := [(2, .int 0), (1, .int 0), (0, .ref a_p0)]) hx hb d_PM_waitsOf_3 rfl hl (by decide) rfl (fun ls hl => ?_)
    exact B_4 300 0 0 _ _ _ hP hD hS (lv_sub hl [2, 1, 0] rfl) hf
  exact E _ _ hP hS
set_option maxHeartbeats 4000000 in
set_option maxRecDepth 100000 in
theorem c_PM_about (l : Launch) (D : va_G) (cI cZ : ClassId) (a_p0 a_layer a_cabman a_page a_shows z_text z_readLayer z_readCabman z_trial z_book z_kept z_isKept z_seenCabman z_seenFinger z_seenOff z_seenCame z_value : Nat) (i1 : Int32) (v_thrown : Int32) (v_textSize : Int32) (v_place : Int32) (v_cabmen : Int32) (v_readCabmen : Int32) (v_acts : Int32) (v_seen : Int32) (v_seed : Int64) (v_bestCleaning : Int32) (v_bestLayers : Int32) (v_bestMany : Int32) (v_underMany : Int32) (v_underLeast : Int32) (v_restMany : Int32) (v_restFirst : Int32) (v_layer : Nat → Int32) (v_cabman : Nat → Int32) (v_page : Nat → Int32) (v_shows : Nat → Int32) (res : Int32 × Int32 × (Nat → Int32)) (hf : f_PM_about i1 v_textSize v_cabmen v_acts v_seen v_layer v_cabman v_page v_thrown v_shows = some res) : CtI l y_PM_about b_PM_about 4 (some .int) 3 D cI cZ [.ref a_p0, .int i1] (cs_PM_about cI cZ a_p0 a_layer a_cabman a_page a_shows z_text z_readLayer z_readCabman z_trial z_book z_kept z_isKept z_seenCabman z_seenFinger z_seenOff z_seenCame z_value v_thrown v_textSize v_place v_cabmen v_readCabmen v_acts v_seen v_seed v_bestCleaning v_bestLayers v_bestMany v_underMany v_underLeast v_restMany v_restFirst v_layer v_cabman v_page v_shows) res.1 (cs_PM_about cI cZ a_p0 a_layer a_cabman a_page a_shows z_text z_readLayer z_readCabman z_trial z_book z_kept z_isKept z_seenCabman z_seenFinger z_seenOff z_seenCame z_value res.2.1 v_textSize v_place v_cabmen v_readCabmen v_acts v_seen v_seed v_bestCleaning v_bestLayers v_bestMany v_underMany v_underLeast v_restMany v_restFirst v_layer v_cabman v_page res.2.2) := by
  refine CtI_mk (by decide) (Nat.le_of_ble_eq_true rfl) ?_
  intro p e s m args below meth c A Q hC hA hP hD RET ls hl
  have hC : Cx p s m args meth c b_PM_about 4 R_PM D cI cZ := hC
  have hl : lv_has ls 4 [(0, .ref a_p0), (1, .int i1)] := hl
  obtain ⟨hx, hb, hml, hown, hts, hlk, hKK⟩ := id hC
  have hS : va_S A s.heap s.heap [] := va_S.rf
  have B_17 : ∀  (n : Nat) (x1 : Int32) (x2 : Int32) (x3 : Int32) (v_thrown : Int32) (v_shows : Nat → Int32) (H : Heap) (locs : List Loc) (ls : Array Slot), va_P D classes (cs_PM_about cI cZ a_p0 a_layer a_cabman a_page a_shows z_text z_readLayer z_readCabman z_trial z_book z_kept z_isKept z_seenCabman z_seenFinger z_seenOff z_seenCame z_value v_thrown v_textSize v_place v_cabmen v_readCabmen v_acts v_seen v_seed v_bestCleaning v_bestLayers v_bestMany v_underMany v_underLeast v_restMany v_restFirst v_layer v_cabman v_page v_shows) H → va_D A (cs_PM_about cI cZ a_p0 a_layer a_cabman a_page a_shows z_text z_readLayer z_readCabman z_trial z_book z_kept z_isKept z_seenCabman z_seenFinger z_seenOff z_seenCame z_value v_thrown v_textSize v_place v_cabmen v_readCabmen v_acts v_seen v_seed v_bestCleaning v_bestLayers v_bestMany v_underMany v_underLeast v_restMany v_restFirst v_layer v_cabman v_page v_shows) → va_S A s.heap H locs → lv_has ls 4 [(0, .ref a_p0), (1, .int x1), (2, .int x2), (3, .int x3)] → f_PM_about_17  v_textSize v_cabmen v_acts v_seen v_layer v_cabman v_page n x1 x2 x3 v_thrown v_shows = some res → W p l e (rm_ 3 (40 * 3)) s m args below meth c H locs 0 0 Q (F0 m 17 ls []) := by
    intro  n
    induction n with
    | zero => intro x1 x2 x3 v_thrown v_shows H locs ls hP hD hS hl hf; exact nomatch hf
    | succ n ih =>
      intro x1 x2 x3 v_thrown v_shows H locs ls hP hD hS hl hf
      have hf : f_PM_about_17_b  (f_PM_about_17  v_textSize v_cabmen v_acts v_seen v_layer v_cabman v_page n) v_textSize v_cabmen v_acts v_seen v_layer v_cabman v_page x1 x2 x3 v_thrown v_shows = some res := hf
      generalize f_PM_about_17  v_textSize v_cabmen v_acts v_seen v_layer v_cabman v_page n = back_17 at ih hf
      have K_17 := ih
      unfold f_PM_about_17_b at hf
      refine lv_iload_n hx hb d_PM_about_17 rfl (lv_at hl 3 rfl) ?_
      refine lv_aload_n hx hb d_PM_about_18 rfl (lv_at hl 0 rfl) ?_
      refine gf_PM_25 hC hP 0 rfl rfl d_PM_about_19 ?_
      refine lv_iconst (v := 4) hx hb d_PM_about_22 (by decide) ?_
      obtain ⟨v1, h2, hf⟩ := o_bind hf
      refine r_iald hC hP 3 rfl h2 d_PM_about_23 ?_
      refine lv_icmp_ge (tgt := 49) hx hb d_PM_about_24 (by decide) (fun c3 => ?_) (fun c3 => ?_)
      · have hf := o_pos c3 hf
        refine lv_iload_n hx hb d_PM_about_49 rfl (lv_at hl 1 rfl) ?_
        by_cases c4 : x1 = 0
        · have hf := o_pos c4 hf
          refine lv_tableIn (off := 46) (tgt := 96) hx hb d_PM_about_50 (by rw [c4]; decide) (by rw [c4]; decide) (by rw [c4]; rfl) (by decide) ?_
          refine lv_aload_n hx hb d_PM_about_96 rfl (lv_at hl 0 rfl) ?_
          refine gf_PM_63 hC hP 0 rfl rfl d_PM_about_97 ?_
          have hr := Option.some.inj hf
          exact RET _ _ _ _ _ _ rfl (congrArg (fun r : Int32 × Int32 × (Nat → Int32) => r.1) hr) (congrArg (fun r : Int32 × Int32 × (Nat → Int32) => (cs_PM_about cI cZ a_p0 a_layer a_cabman a_page a_shows z_text z_readLayer z_readCabman z_trial z_book z_kept z_isKept z_seenCabman z_seenFinger z_seenOff z_seenCame z_value r.2.1 v_textSize v_place v_cabmen v_readCabmen v_acts v_seen v_seed v_bestCleaning v_bestLayers v_bestMany v_underMany v_underLeast v_restMany v_restFirst v_layer v_cabman v_page r.2.2)) hr) hP hD hS d_PM_about_100
        · have hf := o_neg c4 hf
          by_cases c5 : x1 = 1
          · have hf := o_pos c5 hf
            refine lv_tableIn (off := 51) (tgt := 101) hx hb d_PM_about_50 (by rw [c5]; decide) (by rw [c5]; decide) (by rw [c5]; rfl) (by decide) ?_
            refine lv_aload_n hx hb d_PM_about_101 rfl (lv_at hl 0 rfl) ?_
            refine gf_PM_25 hC hP 0 rfl rfl d_PM_about_102 ?_
            obtain ⟨r6, h7, hf⟩ := o_bind hf
            refine cSi (rest := []) (wr := [(a_p0, .inr (7, [.int v_thrown, .ref z_text, .int v_textSize, .int v_place, .ref a_layer, .int v_cabmen, .ref a_cabman, .ref z_readLayer, .int v_readCabmen, .ref z_readCabman, .ref a_page, .ref z_trial, .ref z_book, .int v_acts, .ref z_kept, .ref z_isKept, .int v_seen, .ref z_seenCabman, .ref z_seenFinger, .ref z_seenOff, .ref z_seenCame, .long v_seed, .int v_bestCleaning, .int v_bestLayers, .int v_bestMany, .int v_underMany, .int v_underLeast, .int v_restMany, .int v_restFirst, .ref z_value, .ref a_shows])), (a_layer, .inl (cI, 12, .inl v_layer)), (a_cabman, .inl (cI, 30, .inl v_cabman)), (a_shows, .inl (cI, 4, .inl v_shows))]) (wn := (cs_PM_about cI cZ a_p0 a_layer a_cabman a_page a_shows z_text z_readLayer z_readCabman z_trial z_book z_kept z_isKept z_seenCabman z_seenFinger z_seenOff z_seenCame z_value v_thrown v_textSize v_place v_cabmen v_readCabmen v_acts v_seen v_seed v_bestCleaning v_bestLayers v_bestMany v_underMany v_underLeast v_restMany v_restFirst v_layer v_cabman v_page v_shows)) (c_PM_waitsOf l D cI cZ a_page v_page r6 h7) hC hA hP hD hS hl.1 cw_PM_116 ⟨Nat.le_of_ble_eq_true rfl, Nat.le_of_ble_eq_true rfl⟩ rfl rfl (Nat.le_of_ble_eq_true rfl) d_PM_about_105 ⟨Nat.zero_le _, Nat.zero_le _⟩ [3] [0, 1, 2, 4] [0, 1, 2, 4, 3] (by decide) (Cut_mk rfl rfl (by decide) (by decide) (by decide) rfl) (fun H locs hP hD hS => ?_)
            have hr := Option.some.inj hf
            exact RET _ _ _ _ _ _ rfl (congrArg (fun r : Int32 × Int32 × (Nat → Int32) => r.1) hr) (congrArg (fun r : Int32 × Int32 × (Nat → Int32) => (cs_PM_about cI cZ a_p0 a_layer a_cabman a_page a_shows z_text z_readLayer z_readCabman z_trial z_book z_kept z_isKept z_seenCabman z_seenFinger z_seenOff z_seenCame z_value r.2.1 v_textSize v_place v_cabmen v_readCabmen v_acts v_seen v_seed v_bestCleaning v_bestLayers v_bestMany v_underMany v_underLeast v_restMany v_restFirst v_layer v_cabman v_page r.2.2)) hr) hP hD hS d_PM_about_108
          · have hf := o_neg c5 hf
            by_cases c8 : x1 = 2
            · have hf := o_pos c8 hf
              refine lv_tableIn (off := 59) (tgt := 109) hx hb d_PM_about_50 (by rw [c8]; decide) (by rw [c8]; decide) (by rw [c8]; rfl) (by decide) ?_
              refine lv_iload_n hx hb d_PM_about_109 rfl (lv_at hl 2 rfl) ?_
              have hr := Option.some.inj hf
              exact RET _ _ _ _ _ _ rfl (congrArg (fun r : Int32 × Int32 × (Nat → Int32) => r.1) hr) (congrArg (fun r : Int32 × Int32 × (Nat → Int32) => (cs_PM_about cI cZ a_p0 a_layer a_cabman a_page a_shows z_text z_readLayer z_readCabman z_trial z_book z_kept z_isKept z_seenCabman z_seenFinger z_seenOff z_seenCame z_value r.2.1 v_textSize v_place v_cabmen v_readCabmen v_acts v_seen v_seed v_bestCleaning v_bestLayers v_bestMany v_underMany v_underLeast v_restMany v_restFirst v_layer v_cabman v_page r.2.2)) hr) hP hD hS d_PM_about_110
            · have hf := o_neg c8 hf
              by_cases c9 : x1 = 3
              · have hf := o_pos c9 hf
                refine lv_tableIn (off := 61) (tgt := 111) hx hb d_PM_about_50 (by rw [c9]; decide) (by rw [c9]; decide) (by rw [c9]; rfl) (by decide) ?_
                refine lv_aload_n hx hb d_PM_about_111 rfl (lv_at hl 0 rfl) ?_
                refine lv_bipush (v := 15) hx hb d_PM_about_112 (by decide) ?_
                obtain ⟨r10, h11, hf⟩ := o_bind hf
                refine cVi (rest := []) (wr := [(a_layer, .inl (cI, 12, .inl v_layer)), (a_page, .inl (cI, 16, .inl v_page))]) (wn := (cs_PM_about cI cZ a_p0 a_layer a_cabman a_page a_shows z_text z_readLayer z_readCabman z_trial z_book z_kept z_isKept z_seenCabman z_seenFinger z_seenOff z_seenCame z_value v_thrown v_textSize v_place v_cabmen v_readCabmen v_acts v_seen v_seed v_bestCleaning v_bestLayers v_bestMany v_underMany v_underLeast v_restMany v_restFirst v_layer v_cabman v_page v_shows)) (c_PM_calledOf l D cI cZ a_p0 a_cabman a_shows z_text a_layer z_readLayer z_readCabman a_page z_trial z_book z_kept z_isKept z_seenCabman z_seenFinger z_seenOff z_seenCame z_value 15 v_thrown v_textSize v_place v_cabmen v_readCabmen v_acts v_seen v_seed v_bestCleaning v_bestLayers v_bestMany v_underMany v_underLeast v_restMany v_restFirst v_cabman v_shows r10 h11) hC hA hP hD hS hl.1 cw_PM_120 0 rfl rfl rfl ⟨Nat.le_of_ble_eq_true rfl, Nat.le_of_ble_eq_true rfl⟩ rfl rfl (Nat.le_of_ble_eq_true rfl) d_PM_about_114 ⟨Nat.zero_le _, Nat.zero_le _⟩ [0, 2, 4] [1, 3] [2, 0, 3, 1, 4] (by decide) (Cut_mk rfl rfl (by decide) (by decide) (by decide) rfl) (fun H locs hP hD hS => ?_)
                have hr := Option.some.inj hf
                exact RET _ _ _ _ _ _ rfl (congrArg (fun r : Int32 × Int32 × (Nat → Int32) => r.1) hr) (congrArg (fun r : Int32 × Int32 × (Nat → Int32) => (cs_PM_about cI cZ a_p0 a_layer a_cabman a_page a_shows z_text z_readLayer z_readCabman z_trial z_book z_kept z_isKept z_seenCabman z_seenFinger z_seenOff z_seenCame z_value r.2.1 v_textSize v_place v_cabmen v_readCabmen v_acts v_seen v_seed v_bestCleaning v_bestLayers v_bestMany v_underMany v_underLeast v_restMany v_restFirst v_layer v_cabman v_page r.2.2)) hr) hP hD hS d_PM_about_117
              · have hf := o_neg c9 hf
                by_cases c12 : x1 = 4
                · have hf := o_pos c12 hf
                  refine lv_tableIn (off := 68) (tgt := 118) hx hb d_PM_about_50 (by rw [c12]; decide) (by rw [c12]; decide) (by rw [c12]; rfl) (by decide) ?_
                  refine lv_aload_n hx hb d_PM_about_118 rfl (lv_at hl 0 rfl) ?_
                  refine gf_PM_25 hC hP 0 rfl rfl d_PM_about_119 ?_
                  refine lv_bipush (v := 15) hx hb d_PM_about_122 (by decide) ?_
                  obtain ⟨v13, h14, hf⟩ := o_bind hf
                  refine r_iald hC hP 3 rfl h14 d_PM_about_124 ?_
                  have hr := Option.some.inj hf
                  exact RET _ _ _ _ _ _ rfl (congrArg (fun r : Int32 × Int32 × (Nat → Int32) => r.1) hr) (congrArg (fun r : Int32 × Int32 × (Nat → Int32) => (cs_PM_about cI cZ a_p0 a_layer a_cabman a_page a_shows z_text z_readLayer z_readCabman z_trial z_book z_kept z_isKept z_seenCabman z_seenFinger z_seenOff z_seenCame z_value r.2.1 v_textSize v_place v_cabmen v_readCabmen v_acts v_seen v_seed v_bestCleaning v_bestLayers v_bestMany v_underMany v_underLeast v_restMany v_restFirst v_layer v_cabman v_page r.2.2)) hr) hP hD hS d_PM_about_125
                · have hf := o_neg c12 hf
                  by_cases c15 : x1 = 5
                  · have hf := o_pos c15 hf
                    refine lv_tableIn (off := 76) (tgt := 126) hx hb d_PM_about_50 (by rw [c15]; decide) (by rw [c15]; decide) (by rw [c15]; rfl) (by decide) ?_
                    refine lv_aload_n hx hb d_PM_about_126 rfl (lv_at hl 0 rfl) ?_
                    refine gf_PM_102 hC hP 0 rfl rfl d_PM_about_127 ?_
                    have hr := Option.some.inj hf
                    exact RET _ _ _ _ _ _ rfl (congrArg (fun r : Int32 × Int32 × (Nat → Int32) => r.1) hr) (congrArg (fun r : Int32 × Int32 × (Nat → Int32) => (cs_PM_about cI cZ a_p0 a_layer a_cabman a_page a_shows z_text z_readLayer z_readCabman z_trial z_book z_kept z_isKept z_seenCabman z_seenFinger z_seenOff z_seenCame z_value r.2.1 v_textSize v_place v_cabmen v_readCabmen v_acts v_seen v_seed v_bestCleaning v_bestLayers v_bestMany v_underMany v_underLeast v_restMany v_restFirst v_layer v_cabman v_page r.2.2)) hr) hP hD hS d_PM_about_130
                  · have hf := o_neg c15 hf
                    by_cases c16 : x1 = 6
                    · have hf := o_pos c16 hf
                      refine lv_tableIn (off := 81) (tgt := 131) hx hb d_PM_about_50 (by rw [c16]; decide) (by rw [c16]; decide) (by rw [c16]; rfl) (by decide) ?_
                      refine lv_aload_n hx hb d_PM_about_131 rfl (lv_at hl 0 rfl) ?_
                      refine gf_PM_124 hC hP 0 rfl rfl d_PM_about_132 ?_
                      have hr := Option.some.inj hf
                      exact RET _ _ _ _ _ _ rfl (congrArg (fun r : Int32 × Int32 × (Nat → Int32) => r.1) hr) (congrArg (fun r : Int32 × Int32 × (Nat → Int32) => (cs_PM_about cI cZ a_p0 a_layer a_cabman a_page a_shows z_text z_readLayer z_readCabman z_trial z_book z_kept z_isKept z_seenCabman z_seenFinger z_seenOff z_seenCame z_value r.2.1 v_textSize v_place v_cabmen v_readCabmen v_acts v_seen v_seed v_bestCleaning v_bestLayers v_bestMany v_underMany v_underLeast v_restMany v_restFirst v_layer v_cabman v_page r.2.2)) hr) hP hD hS d_PM_about_135
                    · have hf := o_neg c16 hf
                      by_cases c17 : x1 = 7
                      · have hf := o_pos c17 hf
                        refine lv_tableIn (off := 86) (tgt := 136) hx hb d_PM_about_50 (by rw [c17]; decide) (by rw [c17]; decide) (by rw [c17]; rfl) (by decide) ?_
                        refine lv_aload_n hx hb d_PM_about_136 rfl (lv_at hl 0 rfl) ?_
                        refine gf_PM_74 hC hP 0 rfl rfl d_PM_about_137 ?_
                        have hr := Option.some.inj hf
                        exact RET _ _ _ _ _ _ rfl (congrArg (fun r : Int32 × Int32 × (Nat → Int32) => r.1) hr) (congrArg (fun r : Int32 × Int32 × (Nat → Int32) => (cs_PM_about cI cZ a_p0 a_layer a_cabman a_page a_shows z_text z_readLayer z_readCabman z_trial z_book z_kept z_isKept z_seenCabman z_seenFinger z_seenOff z_seenCame z_value r.2.1 v_textSize v_place v_cabmen v_readCabmen v_acts v_seen v_seed v_bestCleaning v_bestLayers v_bestMany v_underMany v_underLeast v_restMany v_restFirst v_layer v_cabman v_page r.2.2)) hr) hP hD hS d_PM_about_140
                      · have hf := o_neg c17 hf
                        have ec4 := sw_ne (k := 0) (by decide) c4
                        have ec5 := sw_ne (k := 1) (by decide) c5
                        have ec8 := sw_ne (k := 2) (by decide) c8
                        have ec9 := sw_ne (k := 3) (by decide) c9
                        have ec12 := sw_ne (k := 4) (by decide) c12
                        have ec15 := sw_ne (k := 5) (by decide) c15
                        have ec16 := sw_ne (k := 6) (by decide) c16
                        have ec17 := sw_ne (k := 7) (by decide) c17
                        refine lv_tableOut (tgt := 141) hx hb d_PM_about_50 (by omega) (by decide) ?_
                        refine lv_bipush (v := (-2)) hx hb d_PM_about_141 (by decide) ?_
                        have hr := Option.some.inj hf
                        exact RET _ _ _ _ _ _ rfl (congrArg (fun r : Int32 × Int32 × (Nat → Int32) => r.1) hr) (congrArg (fun r : Int32 × Int32 × (Nat → Int32) => (cs_PM_about cI cZ a_p0 a_layer a_cabman a_page a_shows z_text z_readLayer z_readCabman z_trial z_book z_kept z_isKept z_seenCabman z_seenFinger z_seenOff z_seenCame z_value r.2.1 v_textSize v_place v_cabmen v_readCabmen v_acts v_seen v_seed v_bestCleaning v_bestLayers v_bestMany v_underMany v_underLeast v_restMany v_restFirst v_layer v_cabman v_page r.2.2)) hr) hP hD hS d_PM_about_143
      · have hf := o_neg c3 hf
        refine lv_bipush (v := 10) hx hb d_PM_about_27 (by decide) ?_
        refine lv_iload_n hx hb d_PM_about_29 rfl (lv_at hl 2 rfl) ?_
        refine lv_imul hx hb d_PM_about_30 ?_
        refine lv_aload_n hx hb d_PM_about_31 rfl (lv_at hl 0 rfl) ?_
        refine gf_PM_25 hC hP 0 rfl rfl d_PM_about_32 ?_
        refine lv_iconst (v := 5) hx hb d_PM_about_35 (by decide) ?_
        refine lv_iload_n hx hb d_PM_about_36 rfl (lv_at hl 3 rfl) ?_
        refine lv_iadd hx hb d_PM_about_37 ?_
        obtain ⟨v18, h19, hf⟩ := o_bind hf
        refine r_iald hC hP 3 rfl h19 d_PM_about_38 ?_
        refine lv_iadd hx hb d_PM_about_39 ?_
        refine lv_iconst (v := 1) hx hb d_PM_about_40 (by decide) ?_
        refine lv_iadd hx hb d_PM_about_41 ?_
        refine lv_istore_n (lv' := [(2, .int (((10 * x2) + v18) + 1)), (0, .ref a_p0), (1, .int x1), (3, .int x3)]) hx hb d_PM_about_42 rfl hl (by decide) rfl (fun ls hl => ?_)
        refine lv_iinc (v := x3 + 1) (lv' := [(3, .int (x3 + 1)), (2, .int (((10 * x2) + v18) + 1)), (0, .ref a_p0), (1, .int x1)]) hx hb d_PM_about_43 hl (k := 3) rfl (rfl) (by decide) rfl (fun ls hl => ?_)
        refine lv_goto (tgt := 17) hx hb d_PM_about_46 (by decide) ?_
        exact K_17 x1 (((10 * x2) + v18) + 1) (x3 + 1) v_thrown v_shows _ _ _ hP hD hS (lv_sub hl [2, 3, 1, 0] rfl) hf
  unfold f_PM_about at hf
  have E : ∀ (H : Heap) (locs : List Loc), va_P D classes (cs_PM_about cI cZ a_p0 a_layer a_cabman a_page a_shows z_text z_readLayer z_readCabman z_trial z_book z_kept z_isKept z_seenCabman z_seenFinger z_seenOff z_seenCame z_value v_thrown v_textSize v_place v_cabmen v_readCabmen v_acts v_seen v_seed v_bestCleaning v_bestLayers v_bestMany v_underMany v_underLeast v_restMany v_restFirst v_layer v_cabman v_page v_shows) H → va_S A s.heap H locs → W p l e (rm_ 3 (40 * 3)) s m args below meth c H locs 0 0 Q (F0 m 0 ls []) := by
    intro H locs hP hS
    refine lv_aload_n hx hb d_PM_about_0 rfl (lv_at hl 0 rfl) ?_
    refine lv_iconst (v := 0) hx hb d_PM_about_1 (by decide) ?_
    refine pf_PM_59 hC hP hD hS 0 rfl (Nat.le_of_ble_eq_true rfl) d_PM_about_2 (fun H locs hP hD hS => ?_)
    have hP : va_P D classes (cs_PM_about cI cZ a_p0 a_layer a_cabman a_page a_shows z_text z_readLayer z_readCabman z_trial z_book z_kept z_isKept z_seenCabman z_seenFinger z_seenOff z_seenCame z_value 0 v_textSize v_place v_cabmen v_readCabmen v_acts v_seen v_seed v_bestCleaning v_bestLayers v_bestMany v_underMany v_underLeast v_restMany v_restFirst v_layer v_cabman v_page v_shows) H := hP
    have hD : va_D A (cs_PM_about cI cZ a_p0 a_layer a_cabman a_page a_shows z_text z_readLayer z_readCabman z_trial z_book z_kept z_isKept z_seenCabman z_seenFinger z_seenOff z_seenCame z_value 0 v_textSize v_place v_cabmen v_readCabmen v_acts v_seen v_seed v_bestCleaning v_bestLayers v_bestMany v_underMany v_underLeast v_restMany v_restFirst v_layer v_cabman v_page v_shows) := hD
    refine lv_aload_n hx hb d_PM_about_5 rfl (lv_at hl 0 rfl) ?_
    refine lv_aload_n hx hb d_PM_about_6 rfl (lv_at hl 0 rfl) ?_
    refine gf_PM_25 hC hP 0 rfl rfl d_PM_about_7 ?_
    obtain ⟨r1, h2, hf⟩ := o_bind hf
    refine cVv (rest := []) (wr := [(a_cabman, .inl (cI, 30, .inl v_cabman))]) (wn := (cs_PM_about cI cZ a_p0 a_layer a_cabman a_page a_shows z_text z_readLayer z_readCabman z_trial z_book z_kept z_isKept z_seenCabman z_seenFinger z_seenOff z_seenCame z_value 0 v_textSize v_place v_cabmen v_readCabmen v_acts v_seen v_seed v_bestCleaning v_bestLayers v_bestMany v_underMany v_underLeast v_restMany v_restFirst v_layer v_cabman v_page r1)) (c_PM_layShown l D cI cZ a_p0 a_layer a_shows a_page z_text a_cabman z_readLayer z_readCabman a_page z_trial z_book z_kept z_isKept z_seenCabman z_seenFinger z_seenOff z_seenCame z_value 0 v_textSize v_place v_cabmen v_readCabmen v_acts v_seen v_seed v_bestCleaning v_bestLayers v_bestMany v_underMany v_underLeast v_restMany v_restFirst v_layer v_shows v_page r1 h2) hC hA hP hD hS hl.1 cw_PM_112 0 rfl rfl rfl ⟨Nat.le_of_ble_eq_true rfl, Nat.le_of_ble_eq_true rfl⟩ rfl rfl (Nat.le_of_ble_eq_true rfl) d_PM_about_10 ⟨Nat.zero_le _, Nat.zero_le _⟩ [0, 1, 4, 3] [2] [1, 2, 0, 4, 3] (by decide) (Cut_mk rfl rfl (by decide) (by decide) (by decide) rfl) (fun H locs hP hD hS => ?_)
    refine lv_iconst (v := 0) hx hb d_PM_about_13 (by decide) ?_
    refine lv_istore_n (lv' := [(2, .int 0), (0, .ref a_p0), (1, .int i1)]) hx hb d_PM_about_14 rfl hl (by decide) rfl (fun ls hl => ?_)
    refine lv_iconst (v := 0) hx hb d_PM_about_15 (by decide) ?_
    refine lv_istore_n (lv' := [(3, .int 0), (2, .int 0), (0, .ref a_p0), (1, .int i1)]) hx hb d_PM_about_16 rfl hl (by decide) rfl (fun ls hl => ?_)
    exact B_17 300 i1 0 0 0 r1 _ _ _ hP hD hS (lv_sub hl [2, 3, 1, 0] rfl) hf
  exact E _ _ hP hS
set_option maxHeartbeats 4000000 in
set_option maxRecDepth 100000 in
theorem c_PM_finger (l : Launch) (D : va_G) (cI cZ : ClassId) (a_p0 a_layer a_page z_text z_cabman z_readLayer z_readCabman z_trial z_book z_kept z_isKept z_seenCabman z_seenFinger z_seenOff z_seenCame z_value z_shows : Nat) (i1 : Int32) (i2 : Int32) (v_thrown : Int32) (v_textSize : Int32) (v_place : Int32) (v_cabmen : Int32) (v_readCabmen : Int32) (v_acts : Int32) (v_seen : Int32) (v_seed : Int64) (v_bestCleaning : Int32) (v_bestLayers : Int32) (v_bestMany : Int32) (v_underMany : Int32) (v_underLeast : Int32) (v_restMany : Int32) (v_restFirst : Int32) (v_layer : Nat → Int32) (v_page : Nat → Int32) (res : Int32 × Int32) (hf : f_PM_finger i1 i2 v_layer v_page v_thrown = some res) : CtI l y_PM_finger b_PM_finger 3 (some .int) 2 D cI cZ [.ref a_p0, .int i1, .int i2] (cs_PM_finger cI cZ a_p0 a_layer a_page z_text z_cabman z_readLayer z_readCabman z_trial z_book z_kept z_isKept z_seenCabman z_seenFinger z_seenOff z_seenCame z_value z_shows v_thrown v_textSize v_place v_cabmen v_readCabmen v_acts v_seen v_seed v_bestCleaning v_bestLayers v_bestMany v_underMany v_underLeast v_restMany v_restFirst v_layer v_page) res.1 (cs_PM_finger cI cZ a_p0 a_layer a_page z_text z_cabman z_readLayer z_readCabman z_trial z_book z_kept z_isKept z_seenCabman z_seenFinger z_seenOff z_seenCame z_value z_shows res.2 v_textSize v_place v_cabmen v_readCabmen v_acts v_seen v_seed v_bestCleaning v_bestLayers v_bestMany v_underMany v_underLeast v_restMany v_restFirst v_layer v_page) := by
  refine CtI_mk (by decide) (Nat.le_of_ble_eq_true rfl) ?_
  intro p e s m args below meth c A Q hC hA hP hD RET ls hl
  have hC : Cx p s m args meth c b_PM_finger 3 R_PM D cI cZ := hC
  have hl : lv_has ls 3 [(0, .ref a_p0), (1, .int i1), (2, .int i2)] := hl
  obtain ⟨hx, hb, hml, hown, hts, hlk, hKK⟩ := id hC
  have hS : va_S A s.heap s.heap [] := va_S.rf
  have B_80 : ∀  (w0 : Int32) (v_thrown : Int32) (H : Heap) (locs : List Loc) (ls : Array Slot), va_P D classes (cs_PM_finger cI cZ a_p0 a_layer a_page z_text z_cabman z_readLayer z_readCabman z_trial z_book z_kept z_isKept z_seenCabman z_seenFinger z_seenOff z_seenCame z_value z_shows v_thrown v_textSize v_place v_cabmen v_readCabmen v_acts v_seen v_seed v_bestCleaning v_bestLayers v_bestMany v_underMany v_underLeast v_restMany v_restFirst v_layer v_page) H → va_D A (cs_PM_finger cI cZ a_p0 a_layer a_page z_text z_cabman z_readLayer z_readCabman z_trial z_book z_kept z_isKept z_seenCabman z_seenFinger z_seenOff z_seenCame z_value z_shows v_thrown v_textSize v_place v_cabmen v_readCabmen v_acts v_seen v_seed v_bestCleaning v_bestLayers v_bestMany v_underMany v_underLeast v_restMany v_restFirst v_layer v_page) → va_S A s.heap H locs → lv_has ls 3 [] → f_PM_finger_80  v_layer v_page w0 v_thrown = some res → W p l e (rm_ 2 (40 * 2)) s m args below meth c H locs 0 0 Q (F0 m 80 ls [.int w0]) := by
    intro  w0 v_thrown H locs ls hP hD hS hl hf
    unfold f_PM_finger_80 at hf
    have hr := Option.some.inj hf
    exact RET _ _ _ _ _ _ rfl (congrArg (fun r : Int32 × Int32 => r.1) hr) (congrArg (fun r : Int32 × Int32 => (cs_PM_finger cI cZ a_p0 a_layer a_page z_text z_cabman z_readLayer z_readCabman z_trial z_book z_kept z_isKept z_seenCabman z_seenFinger z_seenOff z_seenCame z_value z_shows r.2 v_textSize v_place v_cabmen v_readCabmen v_acts v_seen v_seed v_bestCleaning v_bestLayers v_bestMany v_underMany v_underLeast v_restMany v_restFirst v_layer v_page)) hr) hP hD hS d_PM_finger_80
  unfold f_PM_finger at hf
  have E : ∀ (H : Heap) (locs : List Loc), va_P D classes (cs_PM_finger cI cZ a_p0 a_layer a_page z_text z_cabman z_readLayer z_readCabman z_trial z_book z_kept z_isKept z_seenCabman z_seenFinger z_seenOff z_seenCame z_value z_shows v_thrown v_textSize v_place v_cabmen v_readCabmen v_acts v_seen v_seed v_bestCleaning v_bestLayers v_bestMany v_underMany v_underLeast v_restMany v_restFirst v_layer v_page) H → va_S A s.heap H locs → W p l e (rm_ 2 (40 * 2)) s m args below meth c H locs 0 0 Q (F0 m 0 ls []) := by
    intro H locs hP hS
    refine lv_aload_n hx hb d_PM_finger_0 rfl (lv_at hl 0 rfl) ?_
    refine lv_iconst (v := 0) hx hb d_PM_finger_1 (by decide) ?_
    refine pf_PM_59 hC hP hD hS 0 rfl (Nat.le_of_ble_eq_true rfl) d_PM_finger_2 (fun H locs hP hD hS => ?_)
    have hP : va_P D classes (cs_PM_finger cI cZ a_p0 a_layer a_page z_text z_cabman z_readLayer z_readCabman z_trial z_book z_kept z_isKept z_seenCabman z_seenFinger z_seenOff z_seenCame z_value z_shows 0 v_textSize v_place v_cabmen v_readCabmen v_acts v_seen v_seed v_bestCleaning v_bestLayers v_bestMany v_underMany v_underLeast v_restMany v_restFirst v_layer v_page) H := hP
    have hD : va_D A (cs_PM_finger cI cZ a_p0 a_layer a_page z_text z_cabman z_readLayer z_readCabman z_trial z_book z_kept z_isKept z_seenCabman z_seenFinger z_seenOff z_seenCame z_value z_shows 0 v_textSize v_place v_cabmen v_readCabmen v_acts v_seen v_seed v_bestCleaning v_bestLayers v_bestMany v_underMany v_underLeast v_restMany v_restFirst v_layer v_page) := hD
    refine lv_iload_n hx hb d_PM_finger_5 rfl (lv_at hl 1 rfl) ?_
    obtain ⟨r1, h2, hf⟩ := o_bind hf
    refine cSi0 (rest := []) (c_PM_noFinger l D cI cZ i1 r1 h2) hC hA hP hD hS hl.1 cw_PM_127 ⟨Nat.le_of_ble_eq_true rfl, Nat.le_of_ble_eq_true rfl⟩ rfl rfl (Nat.le_of_ble_eq_true rfl) d_PM_finger_6 ⟨Nat.zero_le _, Nat.zero_le _⟩ (fun H locs hP hS => ?_)
    refine lv_if_eq (tgt := 14) hx hb d_PM_finger_9 (by decide) (fun c3 => ?_) (fun c3 => ?_)
    · have hf := o_pos c3 hf
      refine lv_iload_n hx hb d_PM_finger_14 rfl (lv_at hl 2 rfl) ?_
      refine lv_i2l (v := Int32.toInt64 i2) hx hb d_PM_finger_15 rfl ?_
      refine lv_lconst (v := 0) hx hb d_PM_finger_16 (by decide) ?_
      refine lv_ldc2 (v := 2) hx hb hown (hts _ g674) d_PM_finger_17 ?_
      obtain ⟨r4, h5, hf⟩ := o_bind hf
      refine cSi0 (rest := []) (c_PM_in l D cI cZ (Int32.toInt64 i2) 0 2 r4 h5) hC hA hP hD hS hl.1 cw_PM_66 ⟨Nat.le_of_ble_eq_true rfl, Nat.le_of_ble_eq_true rfl⟩ rfl rfl (Nat.le_of_ble_eq_true rfl) d_PM_finger_20 ⟨Nat.zero_le _, Nat.zero_le _⟩ (fun H locs hP hS => ?_)
      refine lv_if_eq (tgt := 37) hx hb d_PM_finger_23 (by decide) (fun c6 => ?_) (fun c6 => ?_)
      · have hf := o_pos c6 hf
        refine lv_iload_n hx hb d_PM_finger_37 rfl (lv_at hl 2 rfl) ?_
        refine lv_iconst (v := 3) hx hb d_PM_finger_38 (by decide) ?_
        refine lv_icmp_ne (tgt := 53) hx hb d_PM_finger_39 (by decide) (fun c7 => ?_) (fun c7 => ?_)
        · have hf := o_neg c7 hf
          refine lv_iload_n hx hb d_PM_finger_53 rfl (lv_at hl 2 rfl) ?_
          refine lv_iconst (v := 4) hx hb d_PM_finger_54 (by decide) ?_
          refine lv_icmp_ne (tgt := 78) hx hb d_PM_finger_55 (by decide) (fun c8 => ?_) (fun c8 => ?_)
          · have hf := o_neg c8 hf
            refine lv_bipush (v := (-2)) hx hb d_PM_finger_78 (by decide) ?_
            exact B_80 ((-2)) 0 _ _ _ hP hD hS (lv_sub hl [] rfl) hf
          · have hf := o_pos c8 hf
            refine lv_aload_n hx hb d_PM_finger_58 rfl (lv_at hl 0 rfl) ?_
            refine gf_PM_13 hC hP 0 rfl rfl d_PM_finger_59 ?_
            refine lv_iconst (v := 3) hx hb d_PM_finger_62 (by decide) ?_
            refine lv_iload_n hx hb d_PM_finger_63 rfl (lv_at hl 1 rfl) ?_
            refine lv_imul hx hb d_PM_finger_64 ?_
            refine lv_aload_n hx hb d_PM_finger_65 rfl (lv_at hl 0 rfl) ?_
            refine gf_PM_25 hC hP 0 rfl rfl d_PM_finger_66 ?_
            refine lv_iconst (v := 0) hx hb d_PM_finger_69 (by decide) ?_
            refine lv_iload_n hx hb d_PM_finger_70 rfl (lv_at hl 1 rfl) ?_
            refine lv_iadd hx hb d_PM_finger_71 ?_
            obtain ⟨v9, h10, hf⟩ := o_bind hf
            refine r_iald hC hP 2 rfl h10 d_PM_finger_72 ?_
            refine lv_iadd hx hb d_PM_finger_73 ?_
            obtain ⟨v11, h12, hf⟩ := o_bind hf
            refine r_iald hC hP 1 rfl h12 d_PM_finger_74 ?_
            refine lv_goto (tgt := 80) hx hb d_PM_finger_75 (by decide) ?_
            exact B_80 v11 0 _ _ _ hP hD hS (lv_sub hl [] rfl) hf
        · have hf := o_pos c7 hf
          refine lv_aload_n hx hb d_PM_finger_42 rfl (lv_at hl 0 rfl) ?_
          refine gf_PM_25 hC hP 0 rfl rfl d_PM_finger_43 ?_
          refine lv_iconst (v := 0) hx hb d_PM_finger_46 (by decide) ?_
          refine lv_iload_n hx hb d_PM_finger_47 rfl (lv_at hl 1 rfl) ?_
          refine lv_iadd hx hb d_PM_finger_48 ?_
          obtain ⟨v13, h14, hf⟩ := o_bind hf
          refine r_iald hC hP 2 rfl h14 d_PM_finger_49 ?_
          refine lv_goto (tgt := 80) hx hb d_PM_finger_50 (by decide) ?_
          exact B_80 v13 0 _ _ _ hP hD hS (lv_sub hl [] rfl) hf
      · have hf := o_neg c6 hf
        refine lv_aload_n hx hb d_PM_finger_26 rfl (lv_at hl 0 rfl) ?_
        refine gf_PM_13 hC hP 0 rfl rfl d_PM_finger_27 ?_
        refine lv_iconst (v := 3) hx hb d_PM_finger_30 (by decide) ?_
        refine lv_iload_n hx hb d_PM_finger_31 rfl (lv_at hl 1 rfl) ?_
        refine lv_imul hx hb d_PM_finger_32 ?_
        refine lv_iload_n hx hb d_PM_finger_33 rfl (lv_at hl 2 rfl) ?_
        refine lv_iadd hx hb d_PM_finger_34 ?_
        obtain ⟨v15, h16, hf⟩ := o_bind hf
        refine r_iald hC hP 1 rfl h16 d_PM_finger_35 ?_
        have hr := Option.some.inj hf
        exact RET _ _ _ _ _ _ rfl (congrArg (fun r : Int32 × Int32 => r.1) hr) (congrArg (fun r : Int32 × Int32 => (cs_PM_finger cI cZ a_p0 a_layer a_page z_text z_cabman z_readLayer z_readCabman z_trial z_book z_kept z_isKept z_seenCabman z_seenFinger z_seenOff z_seenCame z_value z_shows r.2 v_textSize v_place v_cabmen v_readCabmen v_acts v_seen v_seed v_bestCleaning v_bestLayers v_bestMany v_underMany v_underLeast v_restMany v_restFirst v_layer v_page)) hr) hP hD hS d_PM_finger_36
    · have hf := o_neg c3 hf
      refine lv_iconst (v := (-1)) hx hb d_PM_finger_12 (by decide) ?_
      have hr := Option.some.inj hf
      exact RET _ _ _ _ _ _ rfl (congrArg (fun r : Int32 × Int32 => r.1) hr) (congrArg (fun r : Int32 × Int32 => (cs_PM_finger cI cZ a_p0 a_layer a_page z_text z_cabman z_readLayer z_readCabman z_trial z_book z_kept z_isKept z_seenCabman z_seenFinger z_seenOff z_seenCame z_value z_shows r.2 v_textSize v_place v_cabmen v_readCabmen v_acts v_seen v_seed v_bestCleaning v_bestLayers v_bestMany v_underMany v_underLeast v_restMany v_restFirst v_layer v_page)) hr) hP hD hS d_PM_finger_13
  exact E _ _ hP hS
set_option maxHeartbeats 4000000 in
set_option maxRecDepth 100000 in
theorem c_PM_cabman (l : Launch) (D : va_G) (cI cZ : ClassId) (a_p0 a_cabman a_page z_text z_layer z_readLayer z_readCabman z_trial z_book z_kept z_isKept z_seenCabman z_seenFinger z_seenOff z_seenCame z_value z_shows : Nat) (i1 : Int32) (i2 : Int32) (v_thrown : Int32) (v_textSize : Int32) (v_place : Int32) (v_cabmen : Int32) (v_readCabmen : Int32) (v_acts : Int32) (v_seen : Int32) (v_seed : Int64) (v_bestCleaning : Int32) (v_bestLayers : Int32) (v_bestMany : Int32) (v_underMany : Int32) (v_underLeast : Int32) (v_restMany : Int32) (v_restFirst : Int32) (v_cabman : Nat → Int32) (v_page : Nat → Int32) (res : Int32 × Int32) (hf : f_PM_cabman i1 i2 v_cabmen v_cabman v_page v_thrown = some res) : CtI l y_PM_cabman b_PM_cabman 3 (some .int) 2 D cI cZ [.ref a_p0, .int i1, .int i2] (cs_PM_cabman cI cZ a_p0 a_cabman a_page z_text z_layer z_readLayer z_readCabman z_trial z_book z_kept z_isKept z_seenCabman z_seenFinger z_seenOff z_seenCame z_value z_shows v_thrown v_textSize v_place v_cabmen v_readCabmen v_acts v_seen v_seed v_bestCleaning v_bestLayers v_bestMany v_underMany v_underLeast v_restMany v_restFirst v_cabman v_page) res.1 (cs_PM_cabman cI cZ a_p0 a_cabman a_page z_text z_layer z_readLayer z_readCabman z_trial z_book z_kept z_isKept z_seenCabman z_seenFinger z_seenOff z_seenCame z_value z_shows res.2 v_textSize v_place v_cabmen v_readCabmen v_acts v_seen v_seed v_bestCleaning v_bestLayers v_bestMany v_underMany v_underLeast v_restMany v_restFirst v_cabman v_page) := by
  refine CtI_mk (by decide) (Nat.le_of_ble_eq_true rfl) ?_
  intro p e s m args below meth c A Q hC hA hP hD RET ls hl
  have hC : Cx p s m args meth c b_PM_cabman 3 R_PM D cI cZ := hC
  have hl : lv_has ls 3 [(0, .ref a_p0), (1, .int i1), (2, .int i2)] := hl
  obtain ⟨hx, hb, hml, hown, hts, hlk, hKK⟩ := id hC
  have hS : va_S A s.heap s.heap [] := va_S.rf
  have B_61 : ∀  (w0 : Int32) (v_thrown : Int32) (H : Heap) (locs : List Loc) (ls : Array Slot), va_P D classes (cs_PM_cabman cI cZ a_p0 a_cabman a_page z_text z_layer z_readLayer z_readCabman z_trial z_book z_kept z_isKept z_seenCabman z_seenFinger z_seenOff z_seenCame z_value z_shows v_thrown v_textSize v_place v_cabmen v_readCabmen v_acts v_seen v_seed v_bestCleaning v_bestLayers v_bestMany v_underMany v_underLeast v_restMany v_restFirst v_cabman v_page) H → va_D A (cs_PM_cabman cI cZ a_p0 a_cabman a_page z_text z_layer z_readLayer z_readCabman z_trial z_book z_kept z_isKept z_seenCabman z_seenFinger z_seenOff z_seenCame z_value z_shows v_thrown v_textSize v_place v_cabmen v_readCabmen v_acts v_seen v_seed v_bestCleaning v_bestLayers v_bestMany v_underMany v_underLeast v_restMany v_restFirst v_cabman v_page) → va_S A s.heap H locs → lv_has ls 3 [] → f_PM_cabman_61  v_cabmen v_cabman v_page w0 v_thrown = some res → W p l e (rm_ 2 (40 * 2)) s m args below meth c H locs 0 0 Q (F0 m 61 ls [.int w0]) := by
    intro  w0 v_thrown H locs ls hP hD hS hl hf
    unfold f_PM_cabman_61 at hf
    have hr := Option.some.inj hf
    exact RET _ _ _ _ _ _ rfl (congrArg (fun r : Int32 × Int32 => r.1) hr) (congrArg (fun r : Int32 × Int32 => (cs_PM_cabman cI cZ a_p0 a_cabman a_page z_text z_layer z_readLayer z_readCabman z_trial z_book z_kept z_isKept z_seenCabman z_seenFinger z_seenOff z_seenCame z_value z_shows r.2 v_textSize v_place v_cabmen v_readCabmen v_acts v_seen v_seed v_bestCleaning v_bestLayers v_bestMany v_underMany v_underLeast v_restMany v_restFirst v_cabman v_page)) hr) hP hD hS d_PM_cabman_61
  unfold f_PM_cabman at hf
  have E : ∀ (H : Heap) (locs : List Loc), va_P D classes (cs_PM_cabman cI cZ a_p0 a_cabman a_page z_text z_layer z_readLayer z_readCabman z_trial z_book z_kept z_isKept z_seenCabman z_seenFinger z_seenOff z_seenCame z_value z_shows v_thrown v_textSize v_place v_cabmen v_readCabmen v_acts v_seen v_seed v_bestCleaning v_bestLayers v_bestMany v_underMany v_underLeast v_restMany v_restFirst v_cabman v_page) H → va_S A s.heap H locs → W p l e (rm_ 2 (40 * 2)) s m args below meth c H locs 0 0 Q (F0 m 0 ls []) := by
    intro H locs hP hS
    refine lv_aload_n hx hb d_PM_cabman_0 rfl (lv_at hl 0 rfl) ?_
    refine lv_iconst (v := 0) hx hb d_PM_cabman_1 (by decide) ?_
    refine pf_PM_59 hC hP hD hS 0 rfl (Nat.le_of_ble_eq_true rfl) d_PM_cabman_2 (fun H locs hP hD hS => ?_)
    have hP : va_P D classes (cs_PM_cabman cI cZ a_p0 a_cabman a_page z_text z_layer z_readLayer z_readCabman z_trial z_book z_kept z_isKept z_seenCabman z_seenFinger z_seenOff z_seenCame z_value z_shows 0 v_textSize v_place v_cabmen v_readCabmen v_acts v_seen v_seed v_bestCleaning v_bestLayers v_bestMany v_underMany v_underLeast v_restMany v_restFirst v_cabman v_page) H := hP
    have hD : va_D A (cs_PM_cabman cI cZ a_p0 a_cabman a_page z_text z_layer z_readLayer z_readCabman z_trial z_book z_kept z_isKept z_seenCabman z_seenFinger z_seenOff z_seenCame z_value z_shows 0 v_textSize v_place v_cabmen v_readCabmen v_acts v_seen v_seed v_bestCleaning v_bestLayers v_bestMany v_underMany v_underLeast v_restMany v_restFirst v_cabman v_page) := hD
    refine lv_aload_n hx hb d_PM_cabman_5 rfl (lv_at hl 0 rfl) ?_
    refine lv_iload_n hx hb d_PM_cabman_6 rfl (lv_at hl 1 rfl) ?_
    obtain ⟨r1, h2, hf⟩ := o_bind hf
    refine cVi (rest := []) (wr := [(a_cabman, .inl (cI, 30, .inl v_cabman)), (a_page, .inl (cI, 16, .inl v_page))]) (wn := (cs_PM_cabman cI cZ a_p0 a_cabman a_page z_text z_layer z_readLayer z_readCabman z_trial z_book z_kept z_isKept z_seenCabman z_seenFinger z_seenOff z_seenCame z_value z_shows 0 v_textSize v_place v_cabmen v_readCabmen v_acts v_seen v_seed v_bestCleaning v_bestLayers v_bestMany v_underMany v_underLeast v_restMany v_restFirst v_cabman v_page)) (c_PM_noCabman l D cI cZ a_p0 z_text z_layer a_cabman z_readLayer z_readCabman a_page z_trial z_book z_kept z_isKept z_seenCabman z_seenFinger z_seenOff z_seenCame z_value z_shows i1 0 v_textSize v_place v_cabmen v_readCabmen v_acts v_seen v_seed v_bestCleaning v_bestLayers v_bestMany v_underMany v_underLeast v_restMany v_restFirst r1 h2) hC hA hP hD hS hl.1 cw_PM_133 0 rfl rfl rfl ⟨Nat.le_of_ble_eq_true rfl, Nat.le_of_ble_eq_true rfl⟩ rfl rfl (Nat.le_of_ble_eq_true rfl) d_PM_cabman_7 ⟨Nat.zero_le _, Nat.zero_le _⟩ [0] [1, 2] [2, 0, 1] (by decide) (Cut_mk rfl rfl (by decide) (by decide) (by decide) rfl) (fun H locs hP hD hS => ?_)
    refine lv_if_eq (tgt := 15) hx hb d_PM_cabman_10 (by decide) (fun c3 => ?_) (fun c3 => ?_)
    · have hf := o_pos c3 hf
      refine lv_iload_n hx hb d_PM_cabman_15 rfl (lv_at hl 2 rfl) ?_
      refine lv_i2l (v := Int32.toInt64 i2) hx hb d_PM_cabman_16 rfl ?_
      refine lv_lconst (v := 0) hx hb d_PM_cabman_17 (by decide) ?_
      refine lv_ldc2 (v := 5) hx hb hown (hts _ g683) d_PM_cabman_18 ?_
      obtain ⟨r4, h5, hf⟩ := o_bind hf
      refine cSi0 (rest := []) (c_PM_in l D cI cZ (Int32.toInt64 i2) 0 5 r4 h5) hC hA hP hD hS hl.1 cw_PM_66 ⟨Nat.le_of_ble_eq_true rfl, Nat.le_of_ble_eq_true rfl⟩ rfl rfl (Nat.le_of_ble_eq_true rfl) d_PM_cabman_21 ⟨Nat.zero_le _, Nat.zero_le _⟩ (fun H locs hP hS => ?_)
      refine lv_if_eq (tgt := 41) hx hb d_PM_cabman_24 (by decide) (fun c6 => ?_) (fun c6 => ?_)
      · have hf := o_pos c6 hf
        refine lv_iload_n hx hb d_PM_cabman_41 rfl (lv_at hl 2 rfl) ?_
        refine lv_bipush (v := 6) hx hb d_PM_cabman_42 (by decide) ?_
        refine lv_icmp_ne (tgt := 59) hx hb d_PM_cabman_44 (by decide) (fun c7 => ?_) (fun c7 => ?_)
        · have hf := o_neg c7 hf
          refine lv_bipush (v := (-2)) hx hb d_PM_cabman_59 (by decide) ?_
          exact B_61 ((-2)) 0 _ _ _ hP hD hS (lv_sub hl [] rfl) hf
        · have hf := o_pos c7 hf
          refine lv_aload_n hx hb d_PM_cabman_47 rfl (lv_at hl 0 rfl) ?_
          refine gf_PM_25 hC hP 0 rfl rfl d_PM_cabman_48 ?_
          refine lv_bipush (v := 10) hx hb d_PM_cabman_51 (by decide) ?_
          refine lv_iload_n hx hb d_PM_cabman_53 rfl (lv_at hl 1 rfl) ?_
          refine lv_iadd hx hb d_PM_cabman_54 ?_
          obtain ⟨v8, h9, hf⟩ := o_bind hf
          refine r_iald hC hP 2 rfl h9 d_PM_cabman_55 ?_
          refine lv_goto (tgt := 61) hx hb d_PM_cabman_56 (by decide) ?_
          exact B_61 v8 0 _ _ _ hP hD hS (lv_sub hl [] rfl) hf
      · have hf := o_neg c6 hf
        refine lv_aload_n hx hb d_PM_cabman_27 rfl (lv_at hl 0 rfl) ?_
        refine gf_PM_16 hC hP 0 rfl rfl d_PM_cabman_28 ?_
        refine lv_bipush (v := 6) hx hb d_PM_cabman_31 (by decide) ?_
        refine lv_iload_n hx hb d_PM_cabman_33 rfl (lv_at hl 1 rfl) ?_
        refine lv_imul hx hb d_PM_cabman_34 ?_
        refine lv_iload_n hx hb d_PM_cabman_35 rfl (lv_at hl 2 rfl) ?_
        refine lv_iadd hx hb d_PM_cabman_36 ?_
        obtain ⟨v10, h11, hf⟩ := o_bind hf
        refine r_iald hC hP 1 rfl h11 d_PM_cabman_37 ?_
        refine lv_goto (tgt := 61) hx hb d_PM_cabman_38 (by decide) ?_
        exact B_61 v10 0 _ _ _ hP hD hS (lv_sub hl [] rfl) hf
    · have hf := o_neg c3 hf
      refine lv_iconst (v := (-1)) hx hb d_PM_cabman_13 (by decide) ?_
      have hr := Option.some.inj hf
      exact RET _ _ _ _ _ _ rfl (congrArg (fun r : Int32 × Int32 => r.1) hr) (congrArg (fun r : Int32 × Int32 => (cs_PM_cabman cI cZ a_p0 a_cabman a_page z_text z_layer z_readLayer z_readCabman z_trial z_book z_kept z_isKept z_seenCabman z_seenFinger z_seenOff z_seenCame z_value z_shows r.2 v_textSize v_place v_cabmen v_readCabmen v_acts v_seen v_seed v_bestCleaning v_bestLayers v_bestMany v_underMany v_underLeast v_restMany v_restFirst v_cabman v_page)) hr) hP hD hS d_PM_cabman_14
  exact E _ _ hP hS
set_option maxHeartbeats 4000000 in
set_option maxRecDepth 100000 in
theorem c_PM_note (l : Launch) (D : va_G) (cI cZ : ClassId) (a_p0 a_page a_book z_text z_layer z_cabman z_readLayer z_readCabman z_trial z_kept z_isKept z_seenCabman z_seenFinger z_seenOff z_seenCame z_value z_shows : Nat) (v_thrown : Int32) (v_textSize : Int32) (v_place : Int32) (v_cabmen : Int32) (v_readCabmen : Int32) (v_acts : Int32) (v_seen : Int32) (v_seed : Int64) (v_bestCleaning : Int32) (v_bestLayers : Int32) (v_bestMany : Int32) (v_underMany : Int32) (v_underLeast : Int32) (v_restMany : Int32) (v_restFirst : Int32) (v_page : Nat → Int32) (v_book : Nat → Int32) (res : Int32 × (Nat → Int32)) (hf : f_PM_note v_page v_acts v_book = some res) : CtV l y_PM_note b_PM_note 2 none 0 D cI cZ [.ref a_p0] (cs_PM_note cI cZ a_p0 a_page a_book z_text z_layer z_cabman z_readLayer z_readCabman z_trial z_kept z_isKept z_seenCabman z_seenFinger z_seenOff z_seenCame z_value z_shows v_thrown v_textSize v_place v_cabmen v_readCabmen v_acts v_seen v_seed v_bestCleaning v_bestLayers v_bestMany v_underMany v_underLeast v_restMany v_restFirst v_page v_book) (cs_PM_note cI cZ a_p0 a_page a_book z_text z_layer z_cabman z_readLayer z_readCabman z_trial z_kept z_isKept z_seenCabman z_seenFinger z_seenOff z_seenCame z_value z_shows v_thrown v_textSize v_place v_cabmen v_readCabmen res.1 v_seen v_seed v_bestCleaning v_bestLayers v_bestMany v_underMany v_underLeast v_restMany v_restFirst v_page res.2) := by
  refine CtV_mk (by decide) (Nat.le_of_ble_eq_true rfl) ?_
  intro p e s m args below meth c A Q hC hA hP hD RET ls hl
  have hC : Cx p s m args meth c b_PM_note 2 R_PM D cI cZ := hC
  have hl : lv_has ls 2 [(0, .ref a_p0)] := hl
  obtain ⟨hx, hb, hml, hown, hts, hlk, hKK⟩ := id hC
  have hS : va_S A s.heap s.heap [] := va_S.rf
  have B_51 : ∀  (n : Nat) (x1 : Int32) (v_acts : Int32) (v_book : Nat → Int32) (H : Heap) (locs : List Loc) (ls : Array Slot), va_P D classes (cs_PM_note cI cZ a_p0 a_page a_book z_text z_layer z_cabman z_readLayer z_readCabman z_trial z_kept z_isKept z_seenCabman z_seenFinger z_seenOff z_seenCame z_value z_shows v_thrown v_textSize v_place v_cabmen v_readCabmen v_acts v_seen v_seed v_bestCleaning v_bestLayers v_bestMany v_underMany v_underLeast v_restMany v_restFirst v_page v_book) H → va_D A (cs_PM_note cI cZ a_p0 a_page a_book z_text z_layer z_cabman z_readLayer z_readCabman z_trial z_kept z_isKept z_seenCabman z_seenFinger z_seenOff z_seenCame z_value z_shows v_thrown v_textSize v_place v_cabmen v_readCabmen v_acts v_seen v_seed v_bestCleaning v_bestLayers v_bestMany v_underMany v_underLeast v_restMany v_restFirst v_page v_book) → va_S A s.heap H locs → lv_has ls 2 [(0, .ref a_p0), (1, .int x1)] → f_PM_note_51  v_page n x1 v_acts v_book = some res → W p l e (rm_ 0 (40 * 0)) s m args below meth c H locs 0 0 Q (F0 m 51 ls []) := by
    intro  n
    induction n with
    | zero => intro x1 v_acts v_book H locs ls hP hD hS hl hf; exact nomatch hf
    | succ n ih =>
      intro x1 v_acts v_book H locs ls hP hD hS hl hf
      have hf : f_PM_note_51_b  (f_PM_note_51  v_page n) v_page x1 v_acts v_book = some res := hf
      generalize f_PM_note_51  v_page n = back_51 at ih hf
      have K_51 := ih
      unfold f_PM_note_51_b at hf
      refine lv_iload_n hx hb d_PM_note_51 rfl (lv_at hl 1 rfl) ?_
      refine lv_bipush (v := 16) hx hb d_PM_note_52 (by decide) ?_
      refine lv_icmp_ge (tgt := 83) hx hb d_PM_note_54 (by decide) (fun c1 => ?_) (fun c1 => ?_)
      · have hf := o_pos c1 hf
        refine lv_aload_n hx hb d_PM_note_83 rfl (lv_at hl 0 rfl) ?_
        refine lv_dup hx hb d_PM_note_84 rfl ?_
        refine gf_PM_102 hC hP 0 rfl rfl d_PM_note_85 ?_
        refine lv_iconst (v := 1) hx hb d_PM_note_88 (by decide) ?_
        refine lv_iadd hx hb d_PM_note_89 ?_
        refine pf_PM_102 hC hP hD hS 0 rfl (Nat.le_of_ble_eq_true rfl) d_PM_note_90 (fun H locs hP hD hS => ?_)
        have hP : va_P D classes (cs_PM_note cI cZ a_p0 a_page a_book z_text z_layer z_cabman z_readLayer z_readCabman z_trial z_kept z_isKept z_seenCabman z_seenFinger z_seenOff z_seenCame z_value z_shows v_thrown v_textSize v_place v_cabmen v_readCabmen (v_acts + 1) v_seen v_seed v_bestCleaning v_bestLayers v_bestMany v_underMany v_underLeast v_restMany v_restFirst v_page v_book) H := hP
        have hD : va_D A (cs_PM_note cI cZ a_p0 a_page a_book z_text z_layer z_cabman z_readLayer z_readCabman z_trial z_kept z_isKept z_seenCabman z_seenFinger z_seenOff z_seenCame z_value z_shows v_thrown v_textSize v_place v_cabmen v_readCabmen (v_acts + 1) v_seen v_seed v_bestCleaning v_bestLayers v_bestMany v_underMany v_underLeast v_restMany v_restFirst v_page v_book) := hD
        have hr := Option.some.inj hf
        exact RET _ _ _ _ _ (congrArg (fun r : Int32 × (Nat → Int32) => (cs_PM_note cI cZ a_p0 a_page a_book z_text z_layer z_cabman z_readLayer z_readCabman z_trial z_kept z_isKept z_seenCabman z_seenFinger z_seenOff z_seenCame z_value z_shows v_thrown v_textSize v_place v_cabmen v_readCabmen r.1 v_seen v_seed v_bestCleaning v_bestLayers v_bestMany v_underMany v_underLeast v_restMany v_restFirst v_page r.2)) hr) hP hD hS d_PM_note_93
      · have hf := o_neg c1 hf
        refine lv_aload_n hx hb d_PM_note_57 rfl (lv_at hl 0 rfl) ?_
        refine gf_PM_31 hC hP 0 rfl rfl d_PM_note_58 ?_
        refine lv_bipush (v := 16) hx hb d_PM_note_61 (by decide) ?_
        refine lv_aload_n hx hb d_PM_note_63 rfl (lv_at hl 0 rfl) ?_
        refine gf_PM_102 hC hP 0 rfl rfl d_PM_note_64 ?_
        refine lv_imul hx hb d_PM_note_67 ?_
        refine lv_iload_n hx hb d_PM_note_68 rfl (lv_at hl 1 rfl) ?_
        refine lv_iadd hx hb d_PM_note_69 ?_
        refine lv_aload_n hx hb d_PM_note_70 rfl (lv_at hl 0 rfl) ?_
        refine gf_PM_25 hC hP 0 rfl rfl d_PM_note_71 ?_
        refine lv_iload_n hx hb d_PM_note_74 rfl (lv_at hl 1 rfl) ?_
        obtain ⟨v2, h3, hf⟩ := o_bind hf
        refine r_iald hC hP 1 rfl h3 d_PM_note_75 ?_
        obtain ⟨g4, h5, hf⟩ := o_bind hf
        refine r_iast hC hP hD hS 2 rfl h5 d_PM_note_76 (fun H locs hP hD hS => ?_)
        have hP : va_P D classes (cs_PM_note cI cZ a_p0 a_page a_book z_text z_layer z_cabman z_readLayer z_readCabman z_trial z_kept z_isKept z_seenCabman z_seenFinger z_seenOff z_seenCame z_value z_shows v_thrown v_textSize v_place v_cabmen v_readCabmen v_acts v_seen v_seed v_bestCleaning v_bestLayers v_bestMany v_underMany v_underLeast v_restMany v_restFirst v_page g4) H := hP
        have hD : va_D A (cs_PM_note cI cZ a_p0 a_page a_book z_text z_layer z_cabman z_readLayer z_readCabman z_trial z_kept z_isKept z_seenCabman z_seenFinger z_seenOff z_seenCame z_value z_shows v_thrown v_textSize v_place v_cabmen v_readCabmen v_acts v_seen v_seed v_bestCleaning v_bestLayers v_bestMany v_underMany v_underLeast v_restMany v_restFirst v_page g4) := hD
        refine lv_iinc (v := x1 + 1) (lv' := [(1, .int (x1 + 1)), (0, .ref a_p0)]) hx hb d_PM_note_77 hl (k := 1) rfl (rfl) (by decide) rfl (fun ls hl => ?_)
        refine lv_goto (tgt := 51) hx hb d_PM_note_80 (by decide) ?_
        exact K_51 (x1 + 1) v_acts g4 _ _ _ hP hD hS (lv_sub hl [1, 0] rfl) hf
  have B_49 : ∀  (v_acts : Int32) (v_book : Nat → Int32) (H : Heap) (locs : List Loc) (ls : Array Slot), va_P D classes (cs_PM_note cI cZ a_p0 a_page a_book z_text z_layer z_cabman z_readLayer z_readCabman z_trial z_kept z_isKept z_seenCabman z_seenFinger z_seenOff z_seenCame z_value z_shows v_thrown v_textSize v_place v_cabmen v_readCabmen v_acts v_seen v_seed v_bestCleaning v_bestLayers v_bestMany v_underMany v_underLeast v_restMany v_restFirst v_page v_book) H → va_D A (cs_PM_note cI cZ a_p0 a_page a_book z_text z_layer z_cabman z_readLayer z_readCabman z_trial z_kept z_isKept z_seenCabman z_seenFinger z_seenOff z_seenCame z_value z_shows v_thrown v_textSize v_place v_cabmen v_readCabmen v_acts v_seen v_seed v_bestCleaning v_bestLayers v_bestMany v_underMany v_underLeast v_restMany v_restFirst v_page v_book) → va_S A s.heap H locs → lv_has ls 2 [(0, .ref a_p0)] → f_PM_note_49  v_page v_acts v_book = some res → W p l e (rm_ 0 (40 * 0)) s m args below meth c H locs 0 0 Q (F0 m 49 ls []) := by
    intro  v_acts v_book H locs ls hP hD hS hl hf
    unfold f_PM_note_49 at hf
    refine lv_iconst (v := 0) hx hb d_PM_note_49 (by decide) ?_
    refine lv_istore_n (lv' := [(1, .int 0), (0, .ref a_p0)]) hx hb d_PM_note_50 rfl hl (by decide) rfl (fun ls hl => ?_)
    exact B_51 300 0 v_acts v_book _ _ _ hP hD hS (lv_sub hl [1, 0] rfl) hf
  have B_11 : ∀  (n : Nat) (x1 : Int32) (v_acts : Int32) (v_book : Nat → Int32) (H : Heap) (locs : List Loc) (ls : Array Slot), va_P D classes (cs_PM_note cI cZ a_p0 a_page a_book z_text z_layer z_cabman z_readLayer z_readCabman z_trial z_kept z_isKept z_seenCabman z_seenFinger z_seenOff z_seenCame z_value z_shows v_thrown v_textSize v_place v_cabmen v_readCabmen v_acts v_seen v_seed v_bestCleaning v_bestLayers v_bestMany v_underMany v_underLeast v_restMany v_restFirst v_page v_book) H → va_D A (cs_PM_note cI cZ a_p0 a_page a_book z_text z_layer z_cabman z_readLayer z_readCabman z_trial z_kept z_isKept z_seenCabman z_seenFinger z_seenOff z_seenCame z_value z_shows v_thrown v_textSize v_place v_cabmen v_readCabmen v_acts v_seen v_seed v_bestCleaning v_bestLayers v_bestMany v_underMany v_underLeast v_restMany v_restFirst v_page v_book) → va_S A s.heap H locs → lv_has ls 2 [(0, .ref a_p0), (1, .int x1)] → f_PM_note_11  v_page n x1 v_acts v_book = some res → W p l e (rm_ 0 (40 * 0)) s m args below meth c H locs 0 0 Q (F0 m 11 ls []) := by
    intro  n
    induction n with
    | zero => intro x1 v_acts v_book H locs ls hP hD hS hl hf; exact nomatch hf
    | succ n ih =>
      intro x1 v_acts v_book H locs ls hP hD hS hl hf
      have hf : f_PM_note_11_b  (f_PM_note_11  v_page n) v_page x1 v_acts v_book = some res := hf
      generalize f_PM_note_11  v_page n = back_11 at ih hf
      have K_11 := ih
      unfold f_PM_note_11_b at hf
      refine lv_iload_n hx hb d_PM_note_11 rfl (lv_at hl 1 rfl) ?_
      refine lv_sipush (v := 208) hx hb d_PM_note_12 (by decide) ?_
      refine lv_icmp_ge (tgt := 39) hx hb d_PM_note_15 (by decide) (fun c1 => ?_) (fun c1 => ?_)
      · have hf := o_pos c1 hf
        refine lv_aload_n hx hb d_PM_note_39 rfl (lv_at hl 0 rfl) ?_
        refine lv_dup hx hb d_PM_note_40 rfl ?_
        refine gf_PM_102 hC hP 0 rfl rfl d_PM_note_41 ?_
        refine lv_iconst (v := 1) hx hb d_PM_note_44 (by decide) ?_
        refine lv_isub hx hb d_PM_note_45 ?_
        refine pf_PM_102 hC hP hD hS 0 rfl (Nat.le_of_ble_eq_true rfl) d_PM_note_46 (fun H locs hP hD hS => ?_)
        have hP : va_P D classes (cs_PM_note cI cZ a_p0 a_page a_book z_text z_layer z_cabman z_readLayer z_readCabman z_trial z_kept z_isKept z_seenCabman z_seenFinger z_seenOff z_seenCame z_value z_shows v_thrown v_textSize v_place v_cabmen v_readCabmen (v_acts - 1) v_seen v_seed v_bestCleaning v_bestLayers v_bestMany v_underMany v_underLeast v_restMany v_restFirst v_page v_book) H := hP
        have hD : va_D A (cs_PM_note cI cZ a_p0 a_page a_book z_text z_layer z_cabman z_readLayer z_readCabman z_trial z_kept z_isKept z_seenCabman z_seenFinger z_seenOff z_seenCame z_value z_shows v_thrown v_textSize v_place v_cabmen v_readCabmen (v_acts - 1) v_seen v_seed v_bestCleaning v_bestLayers v_bestMany v_underMany v_underLeast v_restMany v_restFirst v_page v_book) := hD
        exact B_49 (v_acts - 1) v_book _ _ _ hP hD hS (lv_sub hl [0] rfl) hf
      · have hf := o_neg c1 hf
        refine lv_aload_n hx hb d_PM_note_18 rfl (lv_at hl 0 rfl) ?_
        refine gf_PM_31 hC hP 0 rfl rfl d_PM_note_19 ?_
        refine lv_iload_n hx hb d_PM_note_22 rfl (lv_at hl 1 rfl) ?_
        refine lv_aload_n hx hb d_PM_note_23 rfl (lv_at hl 0 rfl) ?_
        refine gf_PM_31 hC hP 0 rfl rfl d_PM_note_24 ?_
        refine lv_iload_n hx hb d_PM_note_27 rfl (lv_at hl 1 rfl) ?_
        refine lv_bipush (v := 16) hx hb d_PM_note_28 (by decide) ?_
        refine lv_iadd hx hb d_PM_note_30 ?_
        obtain ⟨v2, h3, hf⟩ := o_bind hf
        refine r_iald hC hP 2 rfl h3 d_PM_note_31 ?_
        obtain ⟨g4, h5, hf⟩ := o_bind hf
        refine r_iast hC hP hD hS 2 rfl h5 d_PM_note_32 (fun H locs hP hD hS => ?_)
        have hP : va_P D classes (cs_PM_note cI cZ a_p0 a_page a_book z_text z_layer z_cabman z_readLayer z_readCabman z_trial z_kept z_isKept z_seenCabman z_seenFinger z_seenOff z_seenCame z_value z_shows v_thrown v_textSize v_place v_cabmen v_readCabmen v_acts v_seen v_seed v_bestCleaning v_bestLayers v_bestMany v_underMany v_underLeast v_restMany v_restFirst v_page g4) H := hP
        have hD : va_D A (cs_PM_note cI cZ a_p0 a_page a_book z_text z_layer z_cabman z_readLayer z_readCabman z_trial z_kept z_isKept z_seenCabman z_seenFinger z_seenOff z_seenCame z_value z_shows v_thrown v_textSize v_place v_cabmen v_readCabmen v_acts v_seen v_seed v_bestCleaning v_bestLayers v_bestMany v_underMany v_underLeast v_restMany v_restFirst v_page g4) := hD
        refine lv_iinc (v := x1 + 1) (lv' := [(1, .int (x1 + 1)), (0, .ref a_p0)]) hx hb d_PM_note_33 hl (k := 1) rfl (rfl) (by decide) rfl (fun ls hl => ?_)
        refine lv_goto (tgt := 11) hx hb d_PM_note_36 (by decide) ?_
        exact K_11 (x1 + 1) v_acts g4 _ _ _ hP hD hS (lv_sub hl [1, 0] rfl) hf
  unfold f_PM_note at hf
  have E : ∀ (H : Heap) (locs : List Loc), va_P D classes (cs_PM_note cI cZ a_p0 a_page a_book z_text z_layer z_cabman z_readLayer z_readCabman z_trial z_kept z_isKept z_seenCabman z_seenFinger z_seenOff z_seenCame z_value z_shows v_thrown v_textSize v_place v_cabmen v_readCabmen v_acts v_seen v_seed v_bestCleaning v_bestLayers v_bestMany v_underMany v_underLeast v_restMany v_restFirst v_page v_book) H → va_S A s.heap H locs → W p l e (rm_ 0 (40 * 0)) s m args below meth c H locs 0 0 Q (F0 m 0 ls []) := by
    intro H locs hP hS
    refine lv_aload_n hx hb d_PM_note_0 rfl (lv_at hl 0 rfl) ?_
    refine gf_PM_102 hC hP 0 rfl rfl d_PM_note_1 ?_
    refine lv_bipush (v := 14) hx hb d_PM_note_4 (by decide) ?_
    refine lv_icmp_ne (tgt := 49) hx hb d_PM_note_6 (by decide) (fun c1 => ?_) (fun c1 => ?_)
    · have hf := o_neg c1 hf
      exact B_49 v_acts v_book _ _ _ hP hD hS (lv_sub hl [0] rfl) hf
    · have hf := o_pos c1 hf
      refine lv_iconst (v := 0) hx hb d_PM_note_9 (by decide) ?_
      refine lv_istore_n (lv' := [(1, .int 0), (0, .ref a_p0)]) hx hb d_PM_note_10 rfl hl (by decide) rfl (fun ls hl => ?_)
      exact B_11 300 0 v_acts v_book _ _ _ hP hD hS (lv_sub hl [1, 0] rfl) hf
  exact E _ _ hP hS
set_option maxHeartbeats 4000000 in
set_option maxRecDepth 100000 in
theorem c_PM_goAway (l : Launch) (D : va_G) (cI cZ : ClassId) (a_p0 : Nat) (i1 : Int32) (v_p0 : Nat → Int32) (res : (Nat → Int32)) (hf : f_PM_goAway i1 v_p0 = some res) : CtV l y_PM_goAway b_PM_goAway 4 none 0 D cI cZ [.ref a_p0, .int i1] (cs_PM_goAway cI cZ a_p0 v_p0) (cs_PM_goAway cI cZ a_p0 res) := by
  refine CtV_mk (by decide) (Nat.le_of_ble_eq_true rfl) ?_
  intro p e s m args below meth c A Q hC hA hP hD RET ls hl
  have hC : Cx p s m args meth c b_PM_goAway 4 R_PM D cI cZ := hC
  have hl : lv_has ls 4 [(0, .ref a_p0), (1, .int i1)] := hl
  obtain ⟨hx, hb, hml, hown, hts, hlk, hKK⟩ := id hC
  have hS : va_S A s.heap s.heap [] := va_S.rf
  have B_33 : ∀ (back_4 : Int32 → Int32 → Int32 → (Nat → Int32) → Option ((Nat → Int32))) (K_4 : ∀ (x1 : Int32) (x2 : Int32) (x3 : Int32) (v_p0 : Nat → Int32) (H : Heap) (locs : List Loc) (ls : Array Slot), va_P D classes (cs_PM_goAway cI cZ a_p0 v_p0) H → va_D A (cs_PM_goAway cI cZ a_p0 v_p0) → va_S A s.heap H locs → lv_has ls 4 [(0, .ref a_p0), (1, .int x1), (2, .int x2), (3, .int x3)] → back_4 x1 x2 x3 v_p0 = some res → W p l e (rm_ 0 (40 * 0)) s m args below meth c H locs 0 0 Q (F0 m 4 ls [])) (x1 : Int32) (x2 : Int32) (x3 : Int32) (v_p0 : Nat → Int32) (H : Heap) (locs : List Loc) (ls : Array Slot), va_P D classes (cs_PM_goAway cI cZ a_p0 v_p0) H → va_D A (cs_PM_goAway cI cZ a_p0 v_p0) → va_S A s.heap H locs → lv_has ls 4 [(0, .ref a_p0), (1, .int x1), (2, .int x2), (3, .int x3)] → f_PM_goAway_33 back_4  x1 x2 x3 v_p0 = some res → W p l e (rm_ 0 (40 * 0)) s m args below meth c H locs 0 0 Q (F0 m 33 ls []) := by
    intro back_4 K_4 x1 x2 x3 v_p0 H locs ls hP hD hS hl hf
    unfold f_PM_goAway_33 at hf
    refine lv_iinc (v := x3 + 1) (lv' := [(3, .int (x3 + 1)), (0, .ref a_p0), (1, .int x1), (2, .int x2)]) hx hb d_PM_goAway_33 hl (k := 3) rfl (rfl) (by decide) rfl (fun ls hl => ?_)
    refine lv_goto (tgt := 4) hx hb d_PM_goAway_36 (by decide) ?_
    exact K_4 x1 x2 (x3 + 1) v_p0 _ _ _ hP hD hS (lv_sub hl [1, 2, 3, 0] rfl) hf
  have B_4 : ∀  (n : Nat) (x1 : Int32) (x2 : Int32) (x3 : Int32) (v_p0 : Nat → Int32) (H : Heap) (locs : List Loc) (ls : Array Slot), va_P D classes (cs_PM_goAway cI cZ a_p0 v_p0) H → va_D A (cs_PM_goAway cI cZ a_p0 v_p0) → va_S A s.heap H locs → lv_has ls 4 [(0, .ref a_p0), (1, .int x1), (2, .int x2), (3, .int x3)] → f_PM_goAway_4   n x1 x2 x3 v_p0 = some res → W p l e (rm_ 0 (40 * 0)) s m args below meth c H locs 0 0 Q (F0 m 4 ls []) := by
    intro  n
    induction n with
    | zero => intro x1 x2 x3 v_p0 H locs ls hP hD hS hl hf; exact nomatch hf
    | succ n ih =>
      intro x1 x2 x3 v_p0 H locs ls hP hD hS hl hf
      have hf : f_PM_goAway_4_b  (f_PM_goAway_4   n)  x1 x2 x3 v_p0 = some res := hf
      generalize f_PM_goAway_4   n = back_4 at ih hf
      have K_4 := ih
      unfold f_PM_goAway_4_b at hf
      refine lv_iload_n hx hb d_PM_goAway_4 rfl (lv_at hl 3 rfl) ?_
      refine lv_aload_n hx hb d_PM_goAway_5 rfl (lv_at hl 0 rfl) ?_
      refine lv_iconst (v := 4) hx hb d_PM_goAway_6 (by decide) ?_
      obtain ⟨v1, h2, hf⟩ := o_bind hf
      refine r_iald hC hP 0 rfl h2 d_PM_goAway_7 ?_
      refine lv_icmp_ge (tgt := 39) hx hb d_PM_goAway_8 (by decide) (fun c3 => ?_) (fun c3 => ?_)
      · have hf := o_pos c3 hf
        refine lv_aload_n hx hb d_PM_goAway_39 rfl (lv_at hl 0 rfl) ?_
        refine lv_iconst (v := 4) hx hb d_PM_goAway_40 (by decide) ?_
        refine lv_iload_n hx hb d_PM_goAway_41 rfl (lv_at hl 2 rfl) ?_
        obtain ⟨g4, h5, hf⟩ := o_bind hf
        refine r_iast hC hP hD hS 0 rfl h5 d_PM_goAway_42 (fun H locs hP hD hS => ?_)
        have hP : va_P D classes (cs_PM_goAway cI cZ a_p0 g4) H := hP
        have hD : va_D A (cs_PM_goAway cI cZ a_p0 g4) := hD
        refine lv_aload_n hx hb d_PM_goAway_43 rfl (lv_at hl 0 rfl) ?_
        refine lv_bipush (v := 10) hx hb d_PM_goAway_44 (by decide) ?_
        refine lv_iload_n hx hb d_PM_goAway_46 rfl (lv_at hl 1 rfl) ?_
        refine lv_iadd hx hb d_PM_goAway_47 ?_
        refine lv_bipush (v := (-9)) hx hb d_PM_goAway_48 (by decide) ?_
        obtain ⟨g6, h7, hf⟩ := o_bind hf
        refine r_iast hC hP hD hS 0 rfl h7 d_PM_goAway_50 (fun H locs hP hD hS => ?_)
        have hP : va_P D classes (cs_PM_goAway cI cZ a_p0 g6) H := hP
        have hD : va_D A (cs_PM_goAway cI cZ a_p0 g6) := hD
        have hr := Option.some.inj hf
        exact RET _ _ _ _ _ (congrArg (fun r : (Nat → Int32) => (cs_PM_goAway cI cZ a_p0 r)) hr) hP hD hS d_PM_goAway_51
      · have hf := o_neg c3 hf
        refine lv_aload_n hx hb d_PM_goAway_11 rfl (lv_at hl 0 rfl) ?_
        refine lv_iconst (v := 5) hx hb d_PM_goAway_12 (by decide) ?_
        refine lv_iload_n hx hb d_PM_goAway_13 rfl (lv_at hl 3 rfl) ?_
        refine lv_iadd hx hb d_PM_goAway_14 ?_
        obtain ⟨v8, h9, hf⟩ := o_bind hf
        refine r_iald hC hP 0 rfl h9 d_PM_goAway_15 ?_
        refine lv_iload_n hx hb d_PM_goAway_16 rfl (lv_at hl 1 rfl) ?_
        refine lv_icmp_eq (tgt := 33) hx hb d_PM_goAway_17 (by decide) (fun c10 => ?_) (fun c10 => ?_)
        · have hf := o_pos c10 hf
          exact B_33 back_4 K_4 x1 x2 x3 v_p0 _ _ _ hP hD hS (lv_sub hl [0, 1, 2, 3] rfl) hf
        · have hf := o_neg c10 hf
          refine lv_aload_n hx hb d_PM_goAway_20 rfl (lv_at hl 0 rfl) ?_
          refine lv_iconst (v := 5) hx hb d_PM_goAway_21 (by decide) ?_
          refine lv_iload_n hx hb d_PM_goAway_22 rfl (lv_at hl 2 rfl) ?_
          refine lv_iadd hx hb d_PM_goAway_23 ?_
          refine lv_aload_n hx hb d_PM_goAway_24 rfl (lv_at hl 0 rfl) ?_
          refine lv_iconst (v := 5) hx hb d_PM_goAway_25 (by decide) ?_
          refine lv_iload_n hx hb d_PM_goAway_26 rfl (lv_at hl 3 rfl) ?_
          refine lv_iadd hx hb d_PM_goAway_27 ?_
          obtain ⟨v11, h12, hf⟩ := o_bind hf
          refine r_iald hC hP 0 rfl h12 d_PM_goAway_28 ?_
          obtain ⟨g13, h14, hf⟩ := o_bind hf
          refine r_iast hC hP hD hS 0 rfl h14 d_PM_goAway_29 (fun H locs hP hD hS => ?_)
          have hP : va_P D classes (cs_PM_goAway cI cZ a_p0 g13) H := hP
          have hD : va_D A (cs_PM_goAway cI cZ a_p0 g13) := hD
          refine lv_iinc (v := x2 + 1) (lv' := [(2, .int (x2 + 1)), (0, .ref a_p0), (1, .int x1), (3, .int x3)]) hx hb d_PM_goAway_30 hl (k := 2) rfl (rfl) (by decide) rfl (fun ls hl => ?_)
          exact B_33 back_4 K_4 x1 (x2 + 1) x3 g13 _ _ _ hP hD hS (lv_sub hl [1, 2, 0, 3] rfl) hf
  unfold f_PM_goAway at hf
  have E : ∀ (H : Heap) (locs : List Loc), va_P D classes (cs_PM_goAway cI cZ a_p0 v_p0) H → va_S A s.heap H locs → W p l e (rm_ 0 (40 * 0)) s m args below meth c H locs 0 0 Q (F0 m 0 ls []) := by
    intro H locs hP hS
    refine lv_iconst (v := 0) hx hb d_PM_goAway_0 (by decide) ?_
    refine lv_istore_n (lv' := [(2, .int 0), (0, .ref a_p0), (1, .int i1)]) hx hb d_PM_goAway_1 rfl hl (by decide) rfl (fun ls hl => ?_)
    refine lv_iconst (v := 0) hx hb d_PM_goAway_2 (by decide) ?_
    refine lv_istore_n (lv' := [(3, .int 0), (2, .int 0), (0, .ref a_p0), (1, .int i1)]) hx hb d_PM_goAway_3 rfl hl (by decide) rfl (fun ls hl => ?_)
    exact B_4 300 i1 0 0 v_p0 _ _ _ hP hD hS (lv_sub hl [2, 3, 1, 0] rfl) hf
  exact E _ _ hP hS
set_option maxHeartbeats 4000000 in
set_option maxRecDepth 100000 in
theorem c_PM_goNight (l : Launch) (D : va_G) (cI cZ : ClassId) (a_p0 a_layer a_cabman a_shows a_p1 z_text z_readLayer z_readCabman z_page z_trial z_book z_kept z_isKept z_seenCabman z_seenFinger z_seenOff z_seenCame z_value : Nat) (v_thrown : Int32) (v_textSize : Int32) (v_place : Int32) (v_cabmen : Int32) (v_readCabmen : Int32) (v_acts : Int32) (v_seen : Int32) (v_seed : Int64) (v_bestCleaning : Int32) (v_bestLayers : Int32) (v_bestMany : Int32) (v_underMany : Int32) (v_underLeast : Int32) (v_restMany : Int32) (v_restFirst : Int32) (v_layer : Nat → Int32) (v_cabman : Nat → Int32) (v_shows : Nat → Int32) (v_p1 : Nat → Int32) (res : (Nat → Int32) × (Nat → Int32)) (hf : f_PM_goNight v_cabmen v_layer v_cabman v_shows v_p1 = some res) : CtV l y_PM_goNight b_PM_goNight 6 none 3 D cI cZ [.ref a_p0, .ref a_p1] (cs_PM_goNight cI cZ a_p0 a_layer a_cabman a_shows a_p1 z_text z_readLayer z_readCabman z_page z_trial z_book z_kept z_isKept z_seenCabman z_seenFinger z_seenOff z_seenCame z_value v_thrown v_textSize v_place v_cabmen v_readCabmen v_acts v_seen v_seed v_bestCleaning v_bestLayers v_bestMany v_underMany v_underLeast v_restMany v_restFirst v_layer v_cabman v_shows v_p1) (cs_PM_goNight cI cZ a_p0 a_layer a_cabman a_shows a_p1 z_text z_readLayer z_readCabman z_page z_trial z_book z_kept z_isKept z_seenCabman z_seenFinger z_seenOff z_seenCame z_value v_thrown v_textSize v_place v_cabmen v_readCabmen v_acts v_seen v_seed v_bestCleaning v_bestLayers v_bestMany v_underMany v_underLeast v_restMany v_restFirst v_layer v_cabman res.1 res.2) := by
  refine CtV_mk (by decide) (Nat.le_of_ble_eq_true rfl) ?_
  intro p e s m args below meth c A Q hC hA hP hD RET ls hl
  have hC : Cx p s m args meth c b_PM_goNight 6 R_PM D cI cZ := hC
  have hl : lv_has ls 6 [(0, .ref a_p0), (1, .ref a_p1)] := hl
  obtain ⟨hx, hb, hml, hown, hts, hlk, hKK⟩ := id hC
  have hS : va_S A s.heap s.heap [] := va_S.rf
  have B_172 : ∀ (back_121 : Int32 → Int32 → Int32 → (Nat → Int32) → (Nat → Int32) → Option ((Nat → Int32) × (Nat → Int32))) (K_121 : ∀ (x2 : Int32) (x3 : Int32) (x4 : Int32) (v_shows : Nat → Int32) (v_p1 : Nat → Int32) (H : Heap) (locs : List Loc) (ls : Array Slot), va_P D classes (cs_PM_goNight cI cZ a_p0 a_layer a_cabman a_shows a_p1 z_text z_readLayer z_readCabman z_page z_trial z_book z_kept z_isKept z_seenCabman z_seenFinger z_seenOff z_seenCame z_value v_thrown v_textSize v_place v_cabmen v_readCabmen v_acts v_seen v_seed v_bestCleaning v_bestLayers v_bestMany v_underMany v_underLeast v_restMany v_restFirst v_layer v_cabman v_shows v_p1) H → va_D A (cs_PM_goNight cI cZ a_p0 a_layer a_cabman a_shows a_p1 z_text z_readLayer z_readCabman z_page z_trial z_book z_kept z_isKept z_seenCabman z_seenFinger z_seenOff z_seenCame z_value v_thrown v_textSize v_place v_cabmen v_readCabmen v_acts v_seen v_seed v_bestCleaning v_bestLayers v_bestMany v_underMany v_underLeast v_restMany v_restFirst v_layer v_cabman v_shows v_p1) → va_S A s.heap H locs → lv_has ls 6 [(0, .ref a_p0), (1, .ref a_p1), (2, .int x2), (3, .int x3), (4, .int x4)] → back_121 x2 x3 x4 v_shows v_p1 = some res → W p l e (rm_ 3 (40 * 3)) s m args below meth c H locs 0 0 Q (F0 m 121 ls [])) (x2 : Int32) (x3 : Int32) (x4 : Int32) (v_shows : Nat → Int32) (v_p1 : Nat → Int32) (H : Heap) (locs : List Loc) (ls : Array Slot), va_P D classes (cs_PM_goNight cI cZ a_p0 a_layer a_cabman a_shows a_p1 z_text z_readLayer z_readCabman z_page z_trial z_book z_kept z_isKept z_seenCabman z_seenFinger z_seenOff z_seenCame z_value v_thrown v_textSize v_place v_cabmen v_readCabmen v_acts v_seen v_seed v_bestCleaning v_bestLayers v_bestMany v_underMany v_underLeast v_restMany v_restFirst v_layer v_cabman v_shows v_p1) H → va_D A (cs_PM_goNight cI cZ a_p0 a_layer a_cabman a_shows a_p1 z_text z_readLayer z_readCabman z_page z_trial z_book z_kept z_isKept z_seenCabman z_seenFinger z_seenOff z_seenCame z_value v_thrown v_textSize v_place v_cabmen v_readCabmen v_acts v_seen v_seed v_bestCleaning v_bestLayers v_bestMany v_underMany v_underLeast v_restMany v_restFirst v_layer v_cabman v_shows v_p1) → va_S A s.heap H locs → lv_has ls 6 [(0, .ref a_p0), (1, .ref a_p1), (2, .int x2), (3, .int x3), (4, .int x4)] → f_PM_goNight_172 back_121 v_cabmen v_layer v_cabman x2 x3 x4 v_shows v_p1 = some res → W p l e (rm_ 3 (40 * 3)) s m args below meth c H locs 0 0 Q (F0 m 172 ls []) := by
    intro back_121 K_121 x2 x3 x4 v_shows v_p1 H locs ls hP hD hS hl hf
    unfold f_PM_goNight_172 at hf
    refine lv_iinc (v := x4 + 1) (lv' := [(4, .int (x4 + 1)), (0, .ref a_p0), (1, .ref a_p1), (2, .int x2), (3, .int x3)]) hx hb d_PM_goNight_172 hl (k := 4) rfl (rfl) (by decide) rfl (fun ls hl => ?_)
    refine lv_goto (tgt := 121) hx hb d_PM_goNight_175 (by decide) ?_
    exact K_121 x2 x3 (x4 + 1) v_shows v_p1 _ _ _ hP hD hS (lv_sub hl [1, 2, 3, 4, 0] rfl) hf
  have B_121 : ∀  (n : Nat) (x2 : Int32) (x3 : Int32) (x4 : Int32) (v_shows : Nat → Int32) (v_p1 : Nat → Int32) (H : Heap) (locs : List Loc) (ls : Array Slot), va_P D classes (cs_PM_goNight cI cZ a_p0 a_layer a_cabman a_shows a_p1 z_text z_readLayer z_readCabman z_page z_trial z_book z_kept z_isKept z_seenCabman z_seenFinger z_seenOff z_seenCame z_value v_thrown v_textSize v_place v_cabmen v_readCabmen v_acts v_seen v_seed v_bestCleaning v_bestLayers v_bestMany v_underMany v_underLeast v_restMany v_restFirst v_layer v_cabman v_shows v_p1) H → va_D A (cs_PM_goNight cI cZ a_p0 a_layer a_cabman a_shows a_p1 z_text z_readLayer z_readCabman z_page z_trial z_book z_kept z_isKept z_seenCabman z_seenFinger z_seenOff z_seenCame z_value v_thrown v_textSize v_place v_cabmen v_readCabmen v_acts v_seen v_seed v_bestCleaning v_bestLayers v_bestMany v_underMany v_underLeast v_restMany v_restFirst v_layer v_cabman v_shows v_p1) → va_S A s.heap H locs → lv_has ls 6 [(0, .ref a_p0), (1, .ref a_p1), (2, .int x2), (3, .int x3), (4, .int x4)] → f_PM_goNight_121  v_cabmen v_layer v_cabman n x2 x3 x4 v_shows v_p1 = some res → W p l e (rm_ 3 (40 * 3)) s m args below meth c H locs 0 0 Q (F0 m 121 ls []) := by
    intro  n
    induction n with
    | zero => intro x2 x3 x4 v_shows v_p1 H locs ls hP hD hS hl hf; exact nomatch hf
    | succ n ih =>
      intro x2 x3 x4 v_shows v_p1 H locs ls hP hD hS hl hf
      have hf : f_PM_goNight_121_b  (f_PM_goNight_121  v_cabmen v_layer v_cabman n) v_cabmen v_layer v_cabman x2 x3 x4 v_shows v_p1 = some res := hf
      generalize f_PM_goNight_121  v_cabmen v_layer v_cabman n = back_121 at ih hf
      have K_121 := ih
      unfold f_PM_goNight_121_b at hf
      refine lv_iload hx hb d_PM_goNight_121 (lv_at hl 4 rfl) ?_
      refine lv_aload_n hx hb d_PM_goNight_123 rfl (lv_at hl 0 rfl) ?_
      refine gf_PM_63 hC hP 0 rfl rfl d_PM_goNight_124 ?_
      refine lv_icmp_ge (tgt := 178) hx hb d_PM_goNight_127 (by decide) (fun c1 => ?_) (fun c1 => ?_)
      · have hf := o_pos c1 hf
        refine lv_aload_n hx hb d_PM_goNight_178 rfl (lv_at hl 1 rfl) ?_
        refine lv_bipush (v := 15) hx hb d_PM_goNight_179 (by decide) ?_
        refine lv_dup2_11 hx hb d_PM_goNight_181 rfl rfl ?_
        obtain ⟨v2, h3, hf⟩ := o_bind hf
        refine r_iald hC hP 4 rfl h3 d_PM_goNight_182 ?_
        refine lv_iconst (v := 1) hx hb d_PM_goNight_183 (by decide) ?_
        refine lv_iadd hx hb d_PM_goNight_184 ?_
        obtain ⟨g4, h5, hf⟩ := o_bind hf
        refine r_iast hC hP hD hS 4 rfl h5 d_PM_goNight_185 (fun H locs hP hD hS => ?_)
        have hP : va_P D classes (cs_PM_goNight cI cZ a_p0 a_layer a_cabman a_shows a_p1 z_text z_readLayer z_readCabman z_page z_trial z_book z_kept z_isKept z_seenCabman z_seenFinger z_seenOff z_seenCame z_value v_thrown v_textSize v_place v_cabmen v_readCabmen v_acts v_seen v_seed v_bestCleaning v_bestLayers v_bestMany v_underMany v_underLeast v_restMany v_restFirst v_layer v_cabman v_shows g4) H := hP
        have hD : va_D A (cs_PM_goNight cI cZ a_p0 a_layer a_cabman a_shows a_p1 z_text z_readLayer z_readCabman z_page z_trial z_book z_kept z_isKept z_seenCabman z_seenFinger z_seenOff z_seenCame z_value v_thrown v_textSize v_place v_cabmen v_readCabmen v_acts v_seen v_seed v_bestCleaning v_bestLayers v_bestMany v_underMany v_underLeast v_restMany v_restFirst v_layer v_cabman v_shows g4) := hD
        have hr := Option.some.inj hf
        exact RET _ _ _ _ _ (congrArg (fun r : (Nat → Int32) × (Nat → Int32) => (cs_PM_goNight cI cZ a_p0 a_layer a_cabman a_shows a_p1 z_text z_readLayer z_readCabman z_page z_trial z_book z_kept z_isKept z_seenCabman z_seenFinger z_seenOff z_seenCame z_value v_thrown v_textSize v_place v_cabmen v_readCabmen v_acts v_seen v_seed v_bestCleaning v_bestLayers v_bestMany v_underMany v_underLeast v_restMany v_restFirst v_layer v_cabman r.1 r.2)) hr) hP hD hS d_PM_goNight_186
      · have hf := o_neg c1 hf
        refine lv_iload_n hx hb d_PM_goNight_130 rfl (lv_at hl 2 rfl) ?_
        refine lv_iload hx hb d_PM_goNight_131 (lv_at hl 4 rfl) ?_
        obtain ⟨r6, h7, hf⟩ := o_bind hf
        refine cSi0 (rest := []) (c_PM_has l D cI cZ x2 x4 r6 h7) hC hA hP hD hS hl.1 cw_PM_105 ⟨Nat.le_of_ble_eq_true rfl, Nat.le_of_ble_eq_true rfl⟩ rfl rfl (Nat.le_of_ble_eq_true rfl) d_PM_goNight_133 ⟨Nat.zero_le _, Nat.zero_le _⟩ (fun H locs hP hS => ?_)
        refine lv_if_eq (tgt := 172) hx hb d_PM_goNight_136 (by decide) (fun c8 => ?_) (fun c8 => ?_)
        · have hf := o_pos c8 hf
          exact B_172 back_121 K_121 x2 x3 x4 v_shows v_p1 _ _ _ hP hD hS (lv_sub hl [0, 1, 2, 3, 4] rfl) hf
        · have hf := o_neg c8 hf
          refine lv_iload_n hx hb d_PM_goNight_139 rfl (lv_at hl 3 rfl) ?_
          refine lv_iload hx hb d_PM_goNight_140 (lv_at hl 4 rfl) ?_
          obtain ⟨r9, h10, hf⟩ := o_bind hf
          refine cSi0 (rest := []) (c_PM_has l D cI cZ x3 x4 r9 h10) hC hA hP hD hS hl.1 cw_PM_105 ⟨Nat.le_of_ble_eq_true rfl, Nat.le_of_ble_eq_true rfl⟩ rfl rfl (Nat.le_of_ble_eq_true rfl) d_PM_goNight_142 ⟨Nat.zero_le _, Nat.zero_le _⟩ (fun H locs hP hS => ?_)
          refine lv_if_ne (tgt := 172) hx hb d_PM_goNight_145 (by decide) (fun c11 => ?_) (fun c11 => ?_)
          · have hf := o_neg c11 hf
            exact B_172 back_121 K_121 x2 x3 x4 v_shows v_p1 _ _ _ hP hD hS (lv_sub hl [0, 1, 2, 3, 4] rfl) hf
          · have hf := o_pos c11 hf
            refine lv_aload_n hx hb d_PM_goNight_148 rfl (lv_at hl 1 rfl) ?_
            refine lv_iconst (v := 5) hx hb d_PM_goNight_149 (by decide) ?_
            refine lv_aload_n hx hb d_PM_goNight_150 rfl (lv_at hl 1 rfl) ?_
            refine lv_iconst (v := 4) hx hb d_PM_goNight_151 (by decide) ?_
            obtain ⟨v12, h13, hf⟩ := o_bind hf
            refine r_iald hC hP 4 rfl h13 d_PM_goNight_152 ?_
            refine lv_iadd hx hb d_PM_goNight_153 ?_
            refine lv_iload hx hb d_PM_goNight_154 (lv_at hl 4 rfl) ?_
            obtain ⟨g14, h15, hf⟩ := o_bind hf
            refine r_iast hC hP hD hS 4 rfl h15 d_PM_goNight_156 (fun H locs hP hD hS => ?_)
            have hP : va_P D classes (cs_PM_goNight cI cZ a_p0 a_layer a_cabman a_shows a_p1 z_text z_readLayer z_readCabman z_page z_trial z_book z_kept z_isKept z_seenCabman z_seenFinger z_seenOff z_seenCame z_value v_thrown v_textSize v_place v_cabmen v_readCabmen v_acts v_seen v_seed v_bestCleaning v_bestLayers v_bestMany v_underMany v_underLeast v_restMany v_restFirst v_layer v_cabman v_shows g14) H := hP
            have hD : va_D A (cs_PM_goNight cI cZ a_p0 a_layer a_cabman a_shows a_p1 z_text z_readLayer z_readCabman z_page z_trial z_book z_kept z_isKept z_seenCabman z_seenFinger z_seenOff z_seenCame z_value v_thrown v_textSize v_place v_cabmen v_readCabmen v_acts v_seen v_seed v_bestCleaning v_bestLayers v_bestMany v_underMany v_underLeast v_restMany v_restFirst v_layer v_cabman v_shows g14) := hD
            refine lv_aload_n hx hb d_PM_goNight_157 rfl (lv_at hl 1 rfl) ?_
            refine lv_iconst (v := 4) hx hb d_PM_goNight_158 (by decide) ?_
            refine lv_dup2_11 hx hb d_PM_goNight_159 rfl rfl ?_
            obtain ⟨v16, h17, hf⟩ := o_bind hf
            refine r_iald hC hP 4 rfl h17 d_PM_goNight_160 ?_
            refine lv_iconst (v := 1) hx hb d_PM_goNight_161 (by decide) ?_
            refine lv_iadd hx hb d_PM_goNight_162 ?_
            obtain ⟨g18, h19, hf⟩ := o_bind hf
            refine r_iast hC hP hD hS 4 rfl h19 d_PM_goNight_163 (fun H locs hP hD hS => ?_)
            have hP : va_P D classes (cs_PM_goNight cI cZ a_p0 a_layer a_cabman a_shows a_p1 z_text z_readLayer z_readCabman z_page z_trial z_book z_kept z_isKept z_seenCabman z_seenFinger z_seenOff z_seenCame z_value v_thrown v_textSize v_place v_cabmen v_readCabmen v_acts v_seen v_seed v_bestCleaning v_bestLayers v_bestMany v_underMany v_underLeast v_restMany v_restFirst v_layer v_cabman v_shows g18) H := hP
            have hD : va_D A (cs_PM_goNight cI cZ a_p0 a_layer a_cabman a_shows a_p1 z_text z_readLayer z_readCabman z_page z_trial z_book z_kept z_isKept z_seenCabman z_seenFinger z_seenOff z_seenCame z_value v_thrown v_textSize v_place v_cabmen v_readCabmen v_acts v_seen v_seed v_bestCleaning v_bestLayers v_bestMany v_underMany v_underLeast v_restMany v_restFirst v_layer v_cabman v_shows g18) := hD
            refine lv_aload_n hx hb d_PM_goNight_164 rfl (lv_at hl 1 rfl) ?_
            refine lv_bipush (v := 10) hx hb d_PM_goNight_165 (by decide) ?_
            refine lv_iload hx hb d_PM_goNight_167 (lv_at hl 4 rfl) ?_
            refine lv_iadd hx hb d_PM_goNight_169 ?_
            refine lv_iconst (v := 0) hx hb d_PM_goNight_170 (by decide) ?_
            obtain ⟨g20, h21, hf⟩ := o_bind hf
            refine r_iast hC hP hD hS 4 rfl h21 d_PM_goNight_171 (fun H locs hP hD hS => ?_)
            have hP : va_P D classes (cs_PM_goNight cI cZ a_p0 a_layer a_cabman a_shows a_p1 z_text z_readLayer z_readCabman z_page z_trial z_book z_kept z_isKept z_seenCabman z_seenFinger z_seenOff z_seenCame z_value v_thrown v_textSize v_place v_cabmen v_readCabmen v_acts v_seen v_seed v_bestCleaning v_bestLayers v_bestMany v_underMany v_underLeast v_restMany v_restFirst v_layer v_cabman v_shows g20) H := hP
            have hD : va_D A (cs_PM_goNight cI cZ a_p0 a_layer a_cabman a_shows a_p1 z_text z_readLayer z_readCabman z_page z_trial z_book z_kept z_isKept z_seenCabman z_seenFinger z_seenOff z_seenCame z_value v_thrown v_textSize v_place v_cabmen v_readCabmen v_acts v_seen v_seed v_bestCleaning v_bestLayers v_bestMany v_underMany v_underLeast v_restMany v_restFirst v_layer v_cabman v_shows g20) := hD
            exact B_172 back_121 K_121 x2 x3 x4 v_shows g20 _ _ _ hP hD hS (lv_sub hl [0, 1, 2, 3, 4] rfl) hf
  have B_112 : ∀ (back_20 : Int32 → Int32 → Int32 → (Nat → Int32) → (Nat → Int32) → Option ((Nat → Int32) × (Nat → Int32))) (K_20 : ∀ (x2 : Int32) (x3 : Int32) (x4 : Int32) (v_shows : Nat → Int32) (v_p1 : Nat → Int32) (H : Heap) (locs : List Loc) (ls : Array Slot), va_P D classes (cs_PM_goNight cI cZ a_p0 a_layer a_cabman a_shows a_p1 z_text z_readLayer z_readCabman z_page z_trial z_book z_kept z_isKept z_seenCabman z_seenFinger z_seenOff z_seenCame z_value v_thrown v_textSize v_place v_cabmen v_readCabmen v_acts v_seen v_seed v_bestCleaning v_bestLayers v_bestMany v_underMany v_underLeast v_restMany v_restFirst v_layer v_cabman v_shows v_p1) H → va_D A (cs_PM_goNight cI cZ a_p0 a_layer a_cabman a_shows a_p1 z_text z_readLayer z_readCabman z_page z_trial z_book z_kept z_isKept z_seenCabman z_seenFinger z_seenOff z_seenCame z_value v_thrown v_textSize v_place v_cabmen v_readCabmen v_acts v_seen v_seed v_bestCleaning v_bestLayers v_bestMany v_underMany v_underLeast v_restMany v_restFirst v_layer v_cabman v_shows v_p1) → va_S A s.heap H locs → lv_has ls 6 [(0, .ref a_p0), (1, .ref a_p1), (2, .int x2), (3, .int x3), (4, .int x4)] → back_20 x2 x3 x4 v_shows v_p1 = some res → W p l e (rm_ 3 (40 * 3)) s m args below meth c H locs 0 0 Q (F0 m 20 ls [])) (x2 : Int32) (x3 : Int32) (x4 : Int32) (v_shows : Nat → Int32) (v_p1 : Nat → Int32) (H : Heap) (locs : List Loc) (ls : Array Slot), va_P D classes (cs_PM_goNight cI cZ a_p0 a_layer a_cabman a_shows a_p1 z_text z_readLayer z_readCabman z_page z_trial z_book z_kept z_isKept z_seenCabman z_seenFinger z_seenOff z_seenCame z_value v_thrown v_textSize v_place v_cabmen v_readCabmen v_acts v_seen v_seed v_bestCleaning v_bestLayers v_bestMany v_underMany v_underLeast v_restMany v_restFirst v_layer v_cabman v_shows v_p1) H → va_D A (cs_PM_goNight cI cZ a_p0 a_layer a_cabman a_shows a_p1 z_text z_readLayer z_readCabman z_page z_trial z_book z_kept z_isKept z_seenCabman z_seenFinger z_seenOff z_seenCame z_value v_thrown v_textSize v_place v_cabmen v_readCabmen v_acts v_seen v_seed v_bestCleaning v_bestLayers v_bestMany v_underMany v_underLeast v_restMany v_restFirst v_layer v_cabman v_shows v_p1) → va_S A s.heap H locs → lv_has ls 6 [(0, .ref a_p0), (1, .ref a_p1), (2, .int x2), (3, .int x3), (4, .int x4)] → f_PM_goNight_112 back_20 v_cabmen v_layer v_cabman x2 x3 x4 v_shows v_p1 = some res → W p l e (rm_ 3 (40 * 3)) s m args below meth c H locs 0 0 Q (F0 m 112 ls []) := by
    intro back_20 K_20 x2 x3 x4 v_shows v_p1 H locs ls hP hD hS hl hf
    unfold f_PM_goNight_112 at hf
    refine lv_iinc (v := x4 + 1) (lv' := [(4, .int (x4 + 1)), (0, .ref a_p0), (1, .ref a_p1), (2, .int x2), (3, .int x3)]) hx hb d_PM_goNight_112 hl (k := 4) rfl (rfl) (by decide) rfl (fun ls hl => ?_)
    refine lv_goto (tgt := 20) hx hb d_PM_goNight_115 (by decide) ?_
    exact K_20 x2 x3 (x4 + 1) v_shows v_p1 _ _ _ hP hD hS (lv_sub hl [1, 2, 3, 4, 0] rfl) hf
  have B_77 : ∀ (back_20 : Int32 → Int32 → Int32 → (Nat → Int32) → (Nat → Int32) → Option ((Nat → Int32) × (Nat → Int32))) (K_20 : ∀ (x2 : Int32) (x3 : Int32) (x4 : Int32) (v_shows : Nat → Int32) (v_p1 : Nat → Int32) (H : Heap) (locs : List Loc) (ls : Array Slot), va_P D classes (cs_PM_goNight cI cZ a_p0 a_layer a_cabman a_shows a_p1 z_text z_readLayer z_readCabman z_page z_trial z_book z_kept z_isKept z_seenCabman z_seenFinger z_seenOff z_seenCame z_value v_thrown v_textSize v_place v_cabmen v_readCabmen v_acts v_seen v_seed v_bestCleaning v_bestLayers v_bestMany v_underMany v_underLeast v_restMany v_restFirst v_layer v_cabman v_shows v_p1) H → va_D A (cs_PM_goNight cI cZ a_p0 a_layer a_cabman a_shows a_p1 z_text z_readLayer z_readCabman z_page z_trial z_book z_kept z_isKept z_seenCabman z_seenFinger z_seenOff z_seenCame z_value v_thrown v_textSize v_place v_cabmen v_readCabmen v_acts v_seen v_seed v_bestCleaning v_bestLayers v_bestMany v_underMany v_underLeast v_restMany v_restFirst v_layer v_cabman v_shows v_p1) → va_S A s.heap H locs → lv_has ls 6 [(0, .ref a_p0), (1, .ref a_p1), (2, .int x2), (3, .int x3), (4, .int x4)] → back_20 x2 x3 x4 v_shows v_p1 = some res → W p l e (rm_ 3 (40 * 3)) s m args below meth c H locs 0 0 Q (F0 m 20 ls [])) (x2 : Int32) (x3 : Int32) (x4 : Int32) (w0 : Int32) (v_shows : Nat → Int32) (v_p1 : Nat → Int32) (H : Heap) (locs : List Loc) (ls : Array Slot), va_P D classes (cs_PM_goNight cI cZ a_p0 a_layer a_cabman a_shows a_p1 z_text z_readLayer z_readCabman z_page z_trial z_book z_kept z_isKept z_seenCabman z_seenFinger z_seenOff z_seenCame z_value v_thrown v_textSize v_place v_cabmen v_readCabmen v_acts v_seen v_seed v_bestCleaning v_bestLayers v_bestMany v_underMany v_underLeast v_restMany v_restFirst v_layer v_cabman v_shows v_p1) H → va_D A (cs_PM_goNight cI cZ a_p0 a_layer a_cabman a_shows a_p1 z_text z_readLayer z_readCabman z_page z_trial z_book z_kept z_isKept z_seenCabman z_seenFinger z_seenOff z_seenCame z_value v_thrown v_textSize v_place v_cabmen v_readCabmen v_acts v_seen v_seed v_bestCleaning v_bestLayers v_bestMany v_underMany v_underLeast v_restMany v_restFirst v_layer v_cabman v_shows v_p1) → va_S A s.heap H locs → lv_has ls 6 [(0, .ref a_p0), (1, .ref a_p1), (2, .int x2), (3, .int x3), (4, .int x4)] → f_PM_goNight_77 back_20 v_cabmen v_layer v_cabman x2 x3 x4 w0 v_shows v_p1 = some res → W p l e (rm_ 3 (40 * 3)) s m args below meth c H locs 0 0 Q (F0 m 77 ls [.int w0]) := by
    intro back_20 K_20 x2 x3 x4 w0 v_shows v_p1 H locs ls hP hD hS hl hf
    unfold f_PM_goNight_77 at hf
    refine lv_istore (lv' := [(5, .int w0), (0, .ref a_p0), (1, .ref a_p1), (2, .int x2), (3, .int x3), (4, .int x4)]) hx hb d_PM_goNight_77 hl (by decide) rfl (fun ls hl => ?_)
    refine lv_aload_n hx hb d_PM_goNight_79 rfl (lv_at hl 2 rfl) ?_
    refine lv_bipush (v := 10) hx hb d_PM_goNight_80 (by decide) ?_
    refine lv_iload hx hb d_PM_goNight_82 (lv_at hl 5 rfl) ?_
    refine lv_iadd hx hb d_PM_goNight_84 ?_
    obtain ⟨v1, h2, hf⟩ := o_bind hf
    refine r_iald hC hP 4 rfl h2 d_PM_goNight_85 ?_
    refine lv_aload_n hx hb d_PM_goNight_86 rfl (lv_at hl 1 rfl) ?_
    refine gf_PM_16 hC hP 0 rfl rfl d_PM_goNight_87 ?_
    refine lv_bipush (v := 6) hx hb d_PM_goNight_90 (by decide) ?_
    refine lv_iload hx hb d_PM_goNight_92 (lv_at hl 5 rfl) ?_
    refine lv_imul hx hb d_PM_goNight_94 ?_
    refine lv_iconst (v := 1) hx hb d_PM_goNight_95 (by decide) ?_
    refine lv_iadd hx hb d_PM_goNight_96 ?_
    obtain ⟨v3, h4, hf⟩ := o_bind hf
    refine r_iald hC hP 2 rfl h4 d_PM_goNight_97 ?_
    refine lv_icmp_lt (tgt := 112) hx hb d_PM_goNight_98 (by decide) (fun c5 => ?_) (fun c5 => ?_)
    · have hf := o_pos c5 hf
      exact B_112 back_20 K_20 x2 x3 x4 v_shows v_p1 _ _ _ hP hD hS (lv_sub hl [1, 2, 3, 4, 5] rfl) hf
    · have hf := o_neg c5 hf
      refine lv_iload hx hb d_PM_goNight_101 (lv_at hl 0 rfl) ?_
      refine lv_if_ne (tgt := 112) hx hb d_PM_goNight_103 (by decide) (fun c6 => ?_) (fun c6 => ?_)
      · have hf := o_neg c6 hf
        exact B_112 back_20 K_20 x2 x3 x4 v_shows v_p1 _ _ _ hP hD hS (lv_sub hl [1, 2, 3, 4, 5] rfl) hf
      · have hf := o_pos c6 hf
        refine lv_aload_n hx hb d_PM_goNight_106 rfl (lv_at hl 2 rfl) ?_
        refine lv_iload hx hb d_PM_goNight_107 (lv_at hl 5 rfl) ?_
        obtain ⟨r7, h8, hf⟩ := o_bind hf
        refine cSv (rest := []) (wr := [(a_p0, .inr (7, [.int v_thrown, .ref z_text, .int v_textSize, .int v_place, .ref a_layer, .int v_cabmen, .ref a_cabman, .ref z_readLayer, .int v_readCabmen, .ref z_readCabman, .ref z_page, .ref z_trial, .ref z_book, .int v_acts, .ref z_kept, .ref z_isKept, .int v_seen, .ref z_seenCabman, .ref z_seenFinger, .ref z_seenOff, .ref z_seenCame, .long v_seed, .int v_bestCleaning, .int v_bestLayers, .int v_bestMany, .int v_underMany, .int v_underLeast, .int v_restMany, .int v_restFirst, .ref z_value, .ref a_shows])), (a_layer, .inl (cI, 12, .inl v_layer)), (a_cabman, .inl (cI, 30, .inl v_cabman)), (a_shows, .inl (cI, 4, .inl v_shows))]) (wn := (cs_PM_goNight cI cZ a_p0 a_layer a_cabman a_shows a_p1 z_text z_readLayer z_readCabman z_page z_trial z_book z_kept z_isKept z_seenCabman z_seenFinger z_seenOff z_seenCame z_value v_thrown v_textSize v_place v_cabmen v_readCabmen v_acts v_seen v_seed v_bestCleaning v_bestLayers v_bestMany v_underMany v_underLeast v_restMany v_restFirst v_layer v_cabman v_shows r7)) (c_PM_goAway l D cI cZ a_p1 x4 v_p1 r7 h8) hC hA hP hD hS hl.1 cw_PM_138 ⟨Nat.le_of_ble_eq_true rfl, Nat.le_of_ble_eq_true rfl⟩ rfl rfl (Nat.le_of_ble_eq_true rfl) d_PM_goNight_109 ⟨Nat.zero_le _, Nat.zero_le _⟩ [4] [0, 1, 2, 3] [0, 1, 2, 3, 4] (by decide) (Cut_mk rfl rfl (by decide) (by decide) (by decide) rfl) (fun H locs hP hD hS => ?_)
        exact B_112 back_20 K_20 x2 x3 x4 v_shows r7 _ _ _ hP hD hS (lv_sub hl [1, 2, 3, 4, 5] rfl) hf
  have B_76 : ∀ (back_20 : Int32 → Int32 → Int32 → (Nat → Int32) → (Nat → Int32) → Option ((Nat → Int32) × (Nat → Int32))) (K_20 : ∀ (x2 : Int32) (x3 : Int32) (x4 : Int32) (v_shows : Nat → Int32) (v_p1 : Nat → Int32) (H : Heap) (locs : List Loc) (ls : Array Slot), va_P D classes (cs_PM_goNight cI cZ a_p0 a_layer a_cabman a_shows a_p1 z_text z_readLayer z_readCabman z_page z_trial z_book z_kept z_isKept z_seenCabman z_seenFinger z_seenOff z_seenCame z_value v_thrown v_textSize v_place v_cabmen v_readCabmen v_acts v_seen v_seed v_bestCleaning v_bestLayers v_bestMany v_underMany v_underLeast v_restMany v_restFirst v_layer v_cabman v_shows v_p1) H → va_D A (cs_PM_goNight cI cZ a_p0 a_layer a_cabman a_shows a_p1 z_text z_readLayer z_readCabman z_page z_trial z_book z_kept z_isKept z_seenCabman z_seenFinger z_seenOff z_seenCame z_value v_thrown v_textSize v_place v_cabmen v_readCabmen v_acts v_seen v_seed v_bestCleaning v_bestLayers v_bestMany v_underMany v_underLeast v_restMany v_restFirst v_layer v_cabman v_shows v_p1) → va_S A s.heap H locs → lv_has ls 6 [(0, .ref a_p0), (1, .ref a_p1), (2, .int x2), (3, .int x3), (4, .int x4)] → back_20 x2 x3 x4 v_shows v_p1 = some res → W p l e (rm_ 3 (40 * 3)) s m args below meth c H locs 0 0 Q (F0 m 20 ls [])) (x2 : Int32) (x3 : Int32) (x4 : Int32) (v_shows : Nat → Int32) (v_p1 : Nat → Int32) (H : Heap) (locs : List Loc) (ls : Array Slot), va_P D classes (cs_PM_goNight cI cZ a_p0 a_layer a_cabman a_shows a_p1 z_text z_readLayer z_readCabman z_page z_trial z_book z_kept z_isKept z_seenCabman z_seenFinger z_seenOff z_seenCame z_value v_thrown v_textSize v_place v_cabmen v_readCabmen v_acts v_seen v_seed v_bestCleaning v_bestLayers v_bestMany v_underMany v_underLeast v_restMany v_restFirst v_layer v_cabman v_shows v_p1) H → va_D A (cs_PM_goNight cI cZ a_p0 a_layer a_cabman a_shows a_p1 z_text z_readLayer z_readCabman z_page z_trial z_book z_kept z_isKept z_seenCabman z_seenFinger z_seenOff z_seenCame z_value v_thrown v_textSize v_place v_cabmen v_readCabmen v_acts v_seen v_seed v_bestCleaning v_bestLayers v_bestMany v_underMany v_underLeast v_restMany v_restFirst v_layer v_cabman v_shows v_p1) → va_S A s.heap H locs → lv_has ls 6 [(0, .ref a_p0), (1, .ref a_p1), (2, .int x2), (3, .int x3), (4, .int x4)] → f_PM_goNight_76 back_20 v_cabmen v_layer v_cabman x2 x3 x4 v_shows v_p1 = some res → W p l e (rm_ 3 (40 * 3)) s m args below meth c H locs 0 0 Q (F0 m 76 ls []) := by
    intro back_20 K_20 x2 x3 x4 v_shows v_p1 H locs ls hP hD hS hl hf
    unfold f_PM_goNight_76 at hf
    refine lv_iconst (v := 0) hx hb d_PM_goNight_76 (by decide) ?_
    exact B_77 back_20 K_20 x2 x3 x4 0 v_shows v_p1 _ _ _ hP hD hS (lv_sub hl [0, 1, 2, 3, 4] rfl) hf
  have B_20 : ∀  (n : Nat) (x2 : Int32) (x3 : Int32) (x4 : Int32) (v_shows : Nat → Int32) (v_p1 : Nat → Int32) (H : Heap) (locs : List Loc) (ls : Array Slot), va_P D classes (cs_PM_goNight cI cZ a_p0 a_layer a_cabman a_shows a_p1 z_text z_readLayer z_readCabman z_page z_trial z_book z_kept z_isKept z_seenCabman z_seenFinger z_seenOff z_seenCame z_value v_thrown v_textSize v_place v_cabmen v_readCabmen v_acts v_seen v_seed v_bestCleaning v_bestLayers v_bestMany v_underMany v_underLeast v_restMany v_restFirst v_layer v_cabman v_shows v_p1) H → va_D A (cs_PM_goNight cI cZ a_p0 a_layer a_cabman a_shows a_p1 z_text z_readLayer z_readCabman z_page z_trial z_book z_kept z_isKept z_seenCabman z_seenFinger z_seenOff z_seenCame z_value v_thrown v_textSize v_place v_cabmen v_readCabmen v_acts v_seen v_seed v_bestCleaning v_bestLayers v_bestMany v_underMany v_underLeast v_restMany v_restFirst v_layer v_cabman v_shows v_p1) → va_S A s.heap H locs → lv_has ls 6 [(0, .ref a_p0), (1, .ref a_p1), (2, .int x2), (3, .int x3), (4, .int x4)] → f_PM_goNight_20  v_cabmen v_layer v_cabman n x2 x3 x4 v_shows v_p1 = some res → W p l e (rm_ 3 (40 * 3)) s m args below meth c H locs 0 0 Q (F0 m 20 ls []) := by
    intro  n
    induction n with
    | zero => intro x2 x3 x4 v_shows v_p1 H locs ls hP hD hS hl hf; exact nomatch hf
    | succ n ih =>
      intro x2 x3 x4 v_shows v_p1 H locs ls hP hD hS hl hf
      have hf : f_PM_goNight_20_b  (f_PM_goNight_20  v_cabmen v_layer v_cabman n) v_cabmen v_layer v_cabman x2 x3 x4 v_shows v_p1 = some res := hf
      generalize f_PM_goNight_20  v_cabmen v_layer v_cabman n = back_20 at ih hf
      have K_20 := ih
      unfold f_PM_goNight_20_b at hf
      refine lv_iload hx hb d_PM_goNight_20 (lv_at hl 4 rfl) ?_
      refine lv_aload_n hx hb d_PM_goNight_22 rfl (lv_at hl 0 rfl) ?_
      refine gf_PM_63 hC hP 0 rfl rfl d_PM_goNight_23 ?_
      refine lv_icmp_ge (tgt := 118) hx hb d_PM_goNight_26 (by decide) (fun c1 => ?_) (fun c1 => ?_)
      · have hf := o_pos c1 hf
        refine lv_iconst (v := 0) hx hb d_PM_goNight_118 (by decide) ?_
        refine lv_istore (lv' := [(4, .int 0), (0, .ref a_p0), (1, .ref a_p1), (2, .int x2), (3, .int x3)]) hx hb d_PM_goNight_119 hl (by decide) rfl (fun ls hl => ?_)
        exact B_121 300 x2 x3 0 v_shows v_p1 _ _ _ hP hD hS (lv_sub hl [1, 2, 3, 4, 0] rfl) hf
      · have hf := o_neg c1 hf
        refine lv_iload_n hx hb d_PM_goNight_29 rfl (lv_at hl 3 rfl) ?_
        refine lv_iload hx hb d_PM_goNight_30 (lv_at hl 4 rfl) ?_
        obtain ⟨r2, h3, hf⟩ := o_bind hf
        refine cSi0 (rest := []) (c_PM_has l D cI cZ x3 x4 r2 h3) hC hA hP hD hS hl.1 cw_PM_105 ⟨Nat.le_of_ble_eq_true rfl, Nat.le_of_ble_eq_true rfl⟩ rfl rfl (Nat.le_of_ble_eq_true rfl) d_PM_goNight_32 ⟨Nat.zero_le _, Nat.zero_le _⟩ (fun H locs hP hS => ?_)
        refine lv_if_eq (tgt := 112) hx hb d_PM_goNight_35 (by decide) (fun c4 => ?_) (fun c4 => ?_)
        · have hf := o_pos c4 hf
          exact B_112 back_20 K_20 x2 x3 x4 v_shows v_p1 _ _ _ hP hD hS (lv_sub hl [0, 1, 2, 3, 4] rfl) hf
        · have hf := o_neg c4 hf
          refine lv_aload_n hx hb d_PM_goNight_38 rfl (lv_at hl 1 rfl) ?_
          refine lv_bipush (v := 10) hx hb d_PM_goNight_39 (by decide) ?_
          refine lv_iload hx hb d_PM_goNight_41 (lv_at hl 4 rfl) ?_
          refine lv_iadd hx hb d_PM_goNight_43 ?_
          refine lv_dup2_11 hx hb d_PM_goNight_44 rfl rfl ?_
          obtain ⟨v5, h6, hf⟩ := o_bind hf
          refine r_iald hC hP 4 rfl h6 d_PM_goNight_45 ?_
          refine lv_iconst (v := 1) hx hb d_PM_goNight_46 (by decide) ?_
          refine lv_iadd hx hb d_PM_goNight_47 ?_
          obtain ⟨g7, h8, hf⟩ := o_bind hf
          refine r_iast hC hP hD hS 4 rfl h8 d_PM_goNight_48 (fun H locs hP hD hS => ?_)
          have hP : va_P D classes (cs_PM_goNight cI cZ a_p0 a_layer a_cabman a_shows a_p1 z_text z_readLayer z_readCabman z_page z_trial z_book z_kept z_isKept z_seenCabman z_seenFinger z_seenOff z_seenCame z_value v_thrown v_textSize v_place v_cabmen v_readCabmen v_acts v_seen v_seed v_bestCleaning v_bestLayers v_bestMany v_underMany v_underLeast v_restMany v_restFirst v_layer v_cabman v_shows g7) H := hP
          have hD : va_D A (cs_PM_goNight cI cZ a_p0 a_layer a_cabman a_shows a_p1 z_text z_readLayer z_readCabman z_page z_trial z_book z_kept z_isKept z_seenCabman z_seenFinger z_seenOff z_seenCame z_value v_thrown v_textSize v_place v_cabmen v_readCabmen v_acts v_seen v_seed v_bestCleaning v_bestLayers v_bestMany v_underMany v_underLeast v_restMany v_restFirst v_layer v_cabman v_shows g7) := hD
          refine lv_aload_n hx hb d_PM_goNight_49 rfl (lv_at hl 0 rfl) ?_
          refine gf_PM_16 hC hP 0 rfl rfl d_PM_goNight_50 ?_
          refine lv_bipush (v := 6) hx hb d_PM_goNight_53 (by decide) ?_
          refine lv_iload hx hb d_PM_goNight_55 (lv_at hl 4 rfl) ?_
          refine lv_imul hx hb d_PM_goNight_57 ?_
          obtain ⟨v9, h10, hf⟩ := o_bind hf
          refine r_iald hC hP 2 rfl h10 d_PM_goNight_58 ?_
          refine lv_iconst (v := 3) hx hb d_PM_goNight_59 (by decide) ?_
          refine lv_icmp_ne (tgt := 76) hx hb d_PM_goNight_60 (by decide) (fun c11 => ?_) (fun c11 => ?_)
          · have hf := o_neg c11 hf
            exact B_76 back_20 K_20 x2 x3 x4 v_shows g7 _ _ _ hP hD hS (lv_sub hl [0, 1, 2, 3, 4] rfl) hf
          · have hf := o_pos c11 hf
            refine lv_iload_n hx hb d_PM_goNight_63 rfl (lv_at hl 2 rfl) ?_
            refine lv_iload hx hb d_PM_goNight_64 (lv_at hl 4 rfl) ?_
            obtain ⟨r12, h13, hf⟩ := o_bind hf
            refine cSi0 (rest := []) (c_PM_has l D cI cZ x2 x4 r12 h13) hC hA hP hD hS hl.1 cw_PM_105 ⟨Nat.le_of_ble_eq_true rfl, Nat.le_of_ble_eq_true rfl⟩ rfl rfl (Nat.le_of_ble_eq_true rfl) d_PM_goNight_66 ⟨Nat.zero_le _, Nat.zero_le _⟩ (fun H locs hP hS => ?_)
            refine lv_if_eq (tgt := 76) hx hb d_PM_goNight_69 (by decide) (fun c14 => ?_) (fun c14 => ?_)
            · have hf := o_pos c14 hf
              exact B_76 back_20 K_20 x2 x3 x4 v_shows g7 _ _ _ hP hD hS (lv_sub hl [0, 1, 2, 3, 4] rfl) hf
            · have hf := o_neg c14 hf
              refine lv_iconst (v := 1) hx hb d_PM_goNight_72 (by decide) ?_
              refine lv_goto (tgt := 77) hx hb d_PM_goNight_73 (by decide) ?_
              exact B_77 back_20 K_20 x2 x3 x4 1 v_shows g7 _ _ _ hP hD hS (lv_sub hl [0, 1, 2, 3, 4] rfl) hf
  unfold f_PM_goNight at hf
  have E : ∀ (H : Heap) (locs : List Loc), va_P D classes (cs_PM_goNight cI cZ a_p0 a_layer a_cabman a_shows a_p1 z_text z_readLayer z_readCabman z_page z_trial z_book z_kept z_isKept z_seenCabman z_seenFinger z_seenOff z_seenCame z_value v_thrown v_textSize v_place v_cabmen v_readCabmen v_acts v_seen v_seed v_bestCleaning v_bestLayers v_bestMany v_underMany v_underLeast v_restMany v_restFirst v_layer v_cabman v_shows v_p1) H → va_S A s.heap H locs → W p l e (rm_ 3 (40 * 3)) s m args below meth c H locs 0 0 Q (F0 m 0 ls []) := by
    intro H locs hP hS
    refine lv_aload_n hx hb d_PM_goNight_0 rfl (lv_at hl 0 rfl) ?_
    refine lv_aload_n hx hb d_PM_goNight_1 rfl (lv_at hl 1 rfl) ?_
    obtain ⟨r1, h2, hf⟩ := o_bind hf
    refine cVv (rest := []) (wr := [(a_cabman, .inl (cI, 30, .inl v_cabman))]) (wn := (cs_PM_goNight cI cZ a_p0 a_layer a_cabman a_shows a_p1 z_text z_readLayer z_readCabman z_page z_trial z_book z_kept z_isKept z_seenCabman z_seenFinger z_seenOff z_seenCame z_value v_thrown v_textSize v_place v_cabmen v_readCabmen v_acts v_seen v_seed v_bestCleaning v_bestLayers v_bestMany v_underMany v_underLeast v_restMany v_restFirst v_layer v_cabman r1 v_p1)) (c_PM_layShown l D cI cZ a_p0 a_layer a_shows a_p1 z_text a_cabman z_readLayer z_readCabman z_page z_trial z_book z_kept z_isKept z_seenCabman z_seenFinger z_seenOff z_seenCame z_value v_thrown v_textSize v_place v_cabmen v_readCabmen v_acts v_seen v_seed v_bestCleaning v_bestLayers v_bestMany v_underMany v_underLeast v_restMany v_restFirst v_layer v_shows v_p1 r1 h2) hC hA hP hD hS hl.1 cw_PM_112 0 rfl rfl rfl ⟨Nat.le_of_ble_eq_true rfl, Nat.le_of_ble_eq_true rfl⟩ rfl rfl (Nat.le_of_ble_eq_true rfl) d_PM_goNight_2 ⟨Nat.zero_le _, Nat.zero_le _⟩ [0, 1, 3, 4] [2] [1, 2, 0, 3, 4] (by decide) (Cut_mk rfl rfl (by decide) (by decide) (by decide) rfl) (fun H locs hP hD hS => ?_)
    refine lv_aload_n hx hb d_PM_goNight_5 rfl (lv_at hl 0 rfl) ?_
    refine lv_bipush (v := 15) hx hb d_PM_goNight_6 (by decide) ?_
    obtain ⟨r3, h4, hf⟩ := o_bind hf
    refine cVi (rest := []) (wr := [(a_layer, .inl (cI, 12, .inl v_layer)), (a_p1, .inl (cI, 16, .inl v_p1))]) (wn := (cs_PM_goNight cI cZ a_p0 a_layer a_cabman a_shows a_p1 z_text z_readLayer z_readCabman z_page z_trial z_book z_kept z_isKept z_seenCabman z_seenFinger z_seenOff z_seenCame z_value v_thrown v_textSize v_place v_cabmen v_readCabmen v_acts v_seen v_seed v_bestCleaning v_bestLayers v_bestMany v_underMany v_underLeast v_restMany v_restFirst v_layer v_cabman r1 v_p1)) (c_PM_calledOf l D cI cZ a_p0 a_cabman a_shows z_text a_layer z_readLayer z_readCabman z_page z_trial z_book z_kept z_isKept z_seenCabman z_seenFinger z_seenOff z_seenCame z_value 15 v_thrown v_textSize v_place v_cabmen v_readCabmen v_acts v_seen v_seed v_bestCleaning v_bestLayers v_bestMany v_underMany v_underLeast v_restMany v_restFirst v_cabman r1 r3 h4) hC hA hP hD hS hl.1 cw_PM_120 0 rfl rfl rfl ⟨Nat.le_of_ble_eq_true rfl, Nat.le_of_ble_eq_true rfl⟩ rfl rfl (Nat.le_of_ble_eq_true rfl) d_PM_goNight_8 ⟨Nat.zero_le _, Nat.zero_le _⟩ [0, 2, 3] [1, 4] [2, 0, 3, 4, 1] (by decide) (Cut_mk rfl rfl (by decide) (by decide) (by decide) rfl) (fun H locs hP hD hS => ?_)
    refine lv_istore_n (lv' := [(2, .int r3), (0, .ref a_p0), (1, .ref a_p1)]) hx hb d_PM_goNight_11 rfl hl (by decide) rfl (fun ls hl => ?_)
    refine lv_aload_n hx hb d_PM_goNight_12 rfl (lv_at hl 2 rfl) ?_
    obtain ⟨r5, h6, hf⟩ := o_bind hf
    refine cSi (rest := []) (wr := [(a_p0, .inr (7, [.int v_thrown, .ref z_text, .int v_textSize, .int v_place, .ref a_layer, .int v_cabmen, .ref a_cabman, .ref z_readLayer, .int v_readCabmen, .ref z_readCabman, .ref z_page, .ref z_trial, .ref z_book, .int v_acts, .ref z_kept, .ref z_isKept, .int v_seen, .ref z_seenCabman, .ref z_seenFinger, .ref z_seenOff, .ref z_seenCame, .long v_seed, .int v_bestCleaning, .int v_bestLayers, .int v_bestMany, .int v_underMany, .int v_underLeast, .int v_restMany, .int v_restFirst, .ref z_value, .ref a_shows])), (a_layer, .inl (cI, 12, .inl v_layer)), (a_cabman, .inl (cI, 30, .inl v_cabman)), (a_shows, .inl (cI, 4, .inl r1))]) (wn := (cs_PM_goNight cI cZ a_p0 a_layer a_cabman a_shows a_p1 z_text z_readLayer z_readCabman z_page z_trial z_book z_kept z_isKept z_seenCabman z_seenFinger z_seenOff z_seenCame z_value v_thrown v_textSize v_place v_cabmen v_readCabmen v_acts v_seen v_seed v_bestCleaning v_bestLayers v_bestMany v_underMany v_underLeast v_restMany v_restFirst v_layer v_cabman r1 v_p1)) (c_PM_waitsOf l D cI cZ a_p1 v_p1 r5 h6) hC hA hP hD hS hl.1 cw_PM_116 ⟨Nat.le_of_ble_eq_true rfl, Nat.le_of_ble_eq_true rfl⟩ rfl rfl (Nat.le_of_ble_eq_true rfl) d_PM_goNight_13 ⟨Nat.zero_le _, Nat.zero_le _⟩ [4] [0, 1, 2, 3] [0, 1, 2, 3, 4] (by decide) (Cut_mk rfl rfl (by decide) (by decide) (by decide) rfl) (fun H locs hP hD hS => ?_)
    refine lv_istore_n (lv' := [(3, .int r5), (2, .int r3), (0, .ref a_p0), (1, .ref a_p1)]) hx hb d_PM_goNight_16 rfl hl (by decide) rfl (fun ls hl => ?_)
    refine lv_iconst (v := 0) hx hb d_PM_goNight_17 (by decide) ?_
    refine lv_istore (lv' := [(4, .int 0), (3, .int r5), (2, .int r3), (0, .ref a_p0), (1, .ref a_p1)]) hx hb d_PM_goNight_18 hl (by decide) rfl (fun ls hl => ?_)
    exact B_20 300 r3 r5 0 r1 v_p1 _ _ _ hP hD hS (lv_sub hl [3, 4, 2, 1, 0] rfl) hf
  exact E _ _ hP hS
set_option maxHeartbeats 4000000 in
set_option maxRecDepth 100000 in
theorem c_PM_night (l : Launch) (D : va_G) (cI cZ : ClassId) (a_p0 a_layer a_cabman a_page a_book a_shows z_text z_readLayer z_readCabman z_trial z_kept z_isKept z_seenCabman z_seenFinger z_seenOff z_seenCame z_value : Nat) (v_thrown : Int32) (v_textSize : Int32) (v_place : Int32) (v_cabmen : Int32) (v_readCabmen : Int32) (v_acts : Int32) (v_seen : Int32) (v_seed : Int64) (v_bestCleaning : Int32) (v_bestLayers : Int32) (v_bestMany : Int32) (v_underMany : Int32) (v_underLeast : Int32) (v_restMany : Int32) (v_restFirst : Int32) (v_layer : Nat → Int32) (v_cabman : Nat → Int32) (v_page : Nat → Int32) (v_book : Nat → Int32) (v_shows : Nat → Int32) (res : Int32 × Int32 × Int32 × (Nat → Int32) × (Nat → Int32) × (Nat → Int32)) (hf : f_PM_night v_cabmen v_layer v_cabman v_thrown v_acts v_page v_book v_shows = some res) : CtI l y_PM_night b_PM_night 1 (some .int) 4 D cI cZ [.ref a_p0] (cs_PM_night cI cZ a_p0 a_layer a_cabman a_page a_book a_shows z_text z_readLayer z_readCabman z_trial z_kept z_isKept z_seenCabman z_seenFinger z_seenOff z_seenCame z_value v_thrown v_textSize v_place v_cabmen v_readCabmen v_acts v_seen v_seed v_bestCleaning v_bestLayers v_bestMany v_underMany v_underLeast v_restMany v_restFirst v_layer v_cabman v_page v_book v_shows) res.1 (cs_PM_night cI cZ a_p0 a_layer a_cabman a_page a_book a_shows z_text z_readLayer z_readCabman z_trial z_kept z_isKept z_seenCabman z_seenFinger z_seenOff z_seenCame z_value res.2.1 v_textSize v_place v_cabmen v_readCabmen res.2.2.1 v_seen v_seed v_bestCleaning v_bestLayers v_bestMany v_underMany v_underLeast v_restMany v_restFirst v_layer v_cabman res.2.2.2.1 res.2.2.2.2.1 res.2.2.2.2.2) := by
  refine CtI_mk (by decide) (Nat.le_of_ble_eq_true rfl) ?_
  intro p e s m args below meth c A Q hC hA hP hD RET ls hl
  have hC : Cx p s m args meth c b_PM_night 1 R_PM D cI cZ := hC
  have hl : lv_has ls 1 [(0, .ref a_p0)] := hl
  obtain ⟨hx, hb, hml, hown, hts, hlk, hKK⟩ := id hC
  have hS : va_S A s.heap s.heap [] := va_S.rf
  unfold f_PM_night at hf
  have E : ∀ (H : Heap) (locs : List Loc), va_P D classes (cs_PM_night cI cZ a_p0 a_layer a_cabman a_page a_book a_shows z_text z_readLayer z_readCabman z_trial z_kept z_isKept z_seenCabman z_seenFinger z_seenOff z_seenCame z_value v_thrown v_textSize v_place v_cabmen v_readCabmen v_acts v_seen v_seed v_bestCleaning v_bestLayers v_bestMany v_underMany v_underLeast v_restMany v_restFirst v_layer v_cabman v_page v_book v_shows) H → va_S A s.heap H locs → W p l e (rm_ 4 (40 * 4)) s m args below meth c H locs 0 0 Q (F0 m 0 ls []) := by
    intro H locs hP hS
    refine lv_aload_n hx hb d_PM_night_0 rfl (lv_at hl 0 rfl) ?_
    refine lv_iconst (v := 0) hx hb d_PM_night_1 (by decide) ?_
    refine pf_PM_59 hC hP hD hS 0 rfl (Nat.le_of_ble_eq_true rfl) d_PM_night_2 (fun H locs hP hD hS => ?_)
    have hP : va_P D classes (cs_PM_night cI cZ a_p0 a_layer a_cabman a_page a_book a_shows z_text z_readLayer z_readCabman z_trial z_kept z_isKept z_seenCabman z_seenFinger z_seenOff z_seenCame z_value 0 v_textSize v_place v_cabmen v_readCabmen v_acts v_seen v_seed v_bestCleaning v_bestLayers v_bestMany v_underMany v_underLeast v_restMany v_restFirst v_layer v_cabman v_page v_book v_shows) H := hP
    have hD : va_D A (cs_PM_night cI cZ a_p0 a_layer a_cabman a_page a_book a_shows z_text z_readLayer z_readCabman z_trial z_kept z_isKept z_seenCabman z_seenFinger z_seenOff z_seenCame z_value 0 v_textSize v_place v_cabmen v_readCabmen v_acts v_seen v_seed v_bestCleaning v_bestLayers v_bestMany v_underMany v_underLeast v_restMany v_restFirst v_layer v_cabman v_page v_book v_shows) := hD
    refine lv_aload_n hx hb d_PM_night_5 rfl (lv_at hl 0 rfl) ?_
    obtain ⟨r1, h2, hf⟩ := o_bind hf
    refine cVv (rest := []) (wr := [(a_layer, .inl (cI, 12, .inl v_layer)), (a_cabman, .inl (cI, 30, .inl v_cabman)), (a_shows, .inl (cI, 4, .inl v_shows))]) (wn := (cs_PM_night cI cZ a_p0 a_layer a_cabman a_page a_book a_shows z_text z_readLayer z_readCabman z_trial z_kept z_isKept z_seenCabman z_seenFinger z_seenOff z_seenCame z_value 0 v_textSize v_place v_cabmen v_readCabmen r1.1 v_seen v_seed v_bestCleaning v_bestLayers v_bestMany v_underMany v_underLeast v_restMany v_restFirst v_layer v_cabman v_page r1.2 v_shows)) (c_PM_note l D cI cZ a_p0 a_page a_book z_text a_layer a_cabman z_readLayer z_readCabman z_trial z_kept z_isKept z_seenCabman z_seenFinger z_seenOff z_seenCame z_value a_shows 0 v_textSize v_place v_cabmen v_readCabmen v_acts v_seen v_seed v_bestCleaning v_bestLayers v_bestMany v_underMany v_underLeast v_restMany v_restFirst v_page v_book r1 h2) hC hA hP hD hS hl.1 cw_PM_142 0 rfl rfl rfl ⟨Nat.le_of_ble_eq_true rfl, Nat.le_of_ble_eq_true rfl⟩ rfl rfl (Nat.le_of_ble_eq_true rfl) d_PM_night_6 ⟨Nat.zero_le _, Nat.zero_le _⟩ [0, 3, 4] [1, 2, 5] [3, 0, 1, 4, 5, 2] (by decide) (Cut_mk rfl rfl (by decide) (by decide) (by decide) rfl) (fun H locs hP hD hS => ?_)
    refine lv_aload_n hx hb d_PM_night_9 rfl (lv_at hl 0 rfl) ?_
    refine lv_aload_n hx hb d_PM_night_10 rfl (lv_at hl 0 rfl) ?_
    refine gf_PM_25 hC hP 0 rfl rfl d_PM_night_11 ?_
    obtain ⟨r3, h4, hf⟩ := o_bind hf
    refine cVv (rest := []) (wr := [(a_book, .inl (cI, 224, .inl r1.2))]) (wn := (cs_PM_night cI cZ a_p0 a_layer a_cabman a_page a_book a_shows z_text z_readLayer z_readCabman z_trial z_kept z_isKept z_seenCabman z_seenFinger z_seenOff z_seenCame z_value 0 v_textSize v_place v_cabmen v_readCabmen r1.1 v_seen v_seed v_bestCleaning v_bestLayers v_bestMany v_underMany v_underLeast v_restMany v_restFirst v_layer v_cabman r3.2 r1.2 r3.1)) (c_PM_goNight l D cI cZ a_p0 a_layer a_cabman a_shows a_page z_text z_readLayer z_readCabman a_page z_trial a_book z_kept z_isKept z_seenCabman z_seenFinger z_seenOff z_seenCame z_value 0 v_textSize v_place v_cabmen v_readCabmen r1.1 v_seen v_seed v_bestCleaning v_bestLayers v_bestMany v_underMany v_underLeast v_restMany v_restFirst v_layer v_cabman v_shows v_page r3 h4) hC hA hP hD hS hl.1 cw_PM_145 0 rfl rfl rfl ⟨Nat.le_of_ble_eq_true rfl, Nat.le_of_ble_eq_true rfl⟩ rfl rfl (Nat.le_of_ble_eq_true rfl) d_PM_night_14 ⟨Nat.zero_le _, Nat.zero_le _⟩ [0, 1, 2, 5, 3] [4] [1, 2, 3, 5, 0, 4] (by decide) (Cut_mk rfl rfl (by decide) (by decide) (by decide) rfl) (fun H locs hP hD hS => ?_)
    refine lv_aload_n hx hb d_PM_night_17 rfl (lv_at hl 0 rfl) ?_
    refine gf_PM_25 hC hP 0 rfl rfl d_PM_night_18 ?_
    refine lv_iconst (v := 4) hx hb d_PM_night_21 (by decide) ?_
    obtain ⟨v5, h6, hf⟩ := o_bind hf
    refine r_iald hC hP 3 rfl h6 d_PM_night_22 ?_
    have hr := Option.some.inj hf
    exact RET _ _ _ _ _ _ rfl (congrArg (fun r : Int32 × Int32 × Int32 × (Nat → Int32) × (Nat → Int32) × (Nat → Int32) => r.1) hr) (congrArg (fun r : Int32 × Int32 × Int32 × (Nat → Int32) × (Nat → Int32) × (Nat → Int32) => (cs_PM_night cI cZ a_p0 a_layer a_cabman a_page a_book a_shows z_text z_readLayer z_readCabman z_trial z_kept z_isKept z_seenCabman z_seenFinger z_seenOff z_seenCame z_value r.2.1 v_textSize v_place v_cabmen v_readCabmen r.2.2.1 v_seen v_seed v_bestCleaning v_bestLayers v_bestMany v_underMany v_underLeast v_restMany v_restFirst v_layer v_cabman r.2.2.2.1 r.2.2.2.2.1 r.2.2.2.2.2)) hr) hP hD hS d_PM_night_23
  exact E _ _ hP hS
set_option maxHeartbeats 4000000 in
set_option maxRecDepth 100000 in
theorem c_PM_clean (l : Launch) (D : va_G) (cI cZ : ClassId) (a_p0 a_layer a_page a_book z_text z_cabman z_readLayer z_readCabman z_trial z_kept z_isKept z_seenCabman z_seenFinger z_seenOff z_seenCame z_value z_shows : Nat) (i1 : Int32) (v_thrown : Int32) (v_textSize : Int32) (v_place : Int32) (v_cabmen : Int32) (v_readCabmen : Int32) (v_acts : Int32) (v_seen : Int32) (v_seed : Int64) (v_bestCleaning : Int32) (v_bestLayers : Int32) (v_bestMany : Int32) (v_underMany : Int32) (v_underLeast : Int32) (v_restMany : Int32) (v_restFirst : Int32) (v_layer : Nat → Int32) (v_page : Nat → Int32) (v_book : Nat → Int32) (res : Int32 × Int32 × Int32 × (Nat → Int32) × (Nat → Int32)) (hf : f_PM_clean i1 v_layer v_thrown v_acts v_page v_book = some res) : CtI l y_PM_clean b_PM_clean 2 (some .int) 2 D cI cZ [.ref a_p0, .int i1] (cs_PM_clean cI cZ a_p0 a_layer a_page a_book z_text z_cabman z_readLayer z_readCabman z_trial z_kept z_isKept z_seenCabman z_seenFinger z_seenOff z_seenCame z_value z_shows v_thrown v_textSize v_place v_cabmen v_readCabmen v_acts v_seen v_seed v_bestCleaning v_bestLayers v_bestMany v_underMany v_underLeast v_restMany v_restFirst v_layer v_page v_book) res.1 (cs_PM_clean cI cZ a_p0 a_layer a_page a_book z_text z_cabman z_readLayer z_readCabman z_trial z_kept z_isKept z_seenCabman z_seenFinger z_seenOff z_seenCame z_value z_shows res.2.1 v_textSize v_place v_cabmen v_readCabmen res.2.2.1 v_seen v_seed v_bestCleaning v_bestLayers v_bestMany v_underMany v_underLeast v_restMany v_restFirst v_layer res.2.2.2.1 res.2.2.2.2) := by
  refine CtI_mk (by decide) (Nat.le_of_ble_eq_true rfl) ?_
  intro p e s m args below meth c A Q hC hA hP hD RET ls hl
  have hC : Cx p s m args meth c b_PM_clean 2 R_PM D cI cZ := hC
  have hl : lv_has ls 2 [(0, .ref a_p0), (1, .int i1)] := hl
  obtain ⟨hx, hb, hml, hown, hts, hlk, hKK⟩ := id hC
  have hS : va_S A s.heap s.heap [] := va_S.rf
  unfold f_PM_clean at hf
  have E : ∀ (H : Heap) (locs : List Loc), va_P D classes (cs_PM_clean cI cZ a_p0 a_layer a_page a_book z_text z_cabman z_readLayer z_readCabman z_trial z_kept z_isKept z_seenCabman z_seenFinger z_seenOff z_seenCame z_value z_shows v_thrown v_textSize v_place v_cabmen v_readCabmen v_acts v_seen v_seed v_bestCleaning v_bestLayers v_bestMany v_underMany v_underLeast v_restMany v_restFirst v_layer v_page v_book) H → va_S A s.heap H locs → W p l e (rm_ 2 (40 * 2)) s m args below meth c H locs 0 0 Q (F0 m 0 ls []) := by
    intro H locs hP hS
    refine lv_aload_n hx hb d_PM_clean_0 rfl (lv_at hl 0 rfl) ?_
    refine lv_iconst (v := 0) hx hb d_PM_clean_1 (by decide) ?_
    refine pf_PM_59 hC hP hD hS 0 rfl (Nat.le_of_ble_eq_true rfl) d_PM_clean_2 (fun H locs hP hD hS => ?_)
    have hP : va_P D classes (cs_PM_clean cI cZ a_p0 a_layer a_page a_book z_text z_cabman z_readLayer z_readCabman z_trial z_kept z_isKept z_seenCabman z_seenFinger z_seenOff z_seenCame z_value z_shows 0 v_textSize v_place v_cabmen v_readCabmen v_acts v_seen v_seed v_bestCleaning v_bestLayers v_bestMany v_underMany v_underLeast v_restMany v_restFirst v_layer v_page v_book) H := hP
    have hD : va_D A (cs_PM_clean cI cZ a_p0 a_layer a_page a_book z_text z_cabman z_readLayer z_readCabman z_trial z_kept z_isKept z_seenCabman z_seenFinger z_seenOff z_seenCame z_value z_shows 0 v_textSize v_place v_cabmen v_readCabmen v_acts v_seen v_seed v_bestCleaning v_bestLayers v_bestMany v_underMany v_underLeast v_restMany v_restFirst v_layer v_page v_book) := hD
    refine lv_iload_n hx hb d_PM_clean_5 rfl (lv_at hl 1 rfl) ?_
    obtain ⟨r1, h2, hf⟩ := o_bind hf
    refine cSi0 (rest := []) (c_PM_noFinger l D cI cZ i1 r1 h2) hC hA hP hD hS hl.1 cw_PM_127 ⟨Nat.le_of_ble_eq_true rfl, Nat.le_of_ble_eq_true rfl⟩ rfl rfl (Nat.le_of_ble_eq_true rfl) d_PM_clean_6 ⟨Nat.zero_le _, Nat.zero_le _⟩ (fun H locs hP hS => ?_)
    refine lv_if_eq (tgt := 14) hx hb d_PM_clean_9 (by decide) (fun c3 => ?_) (fun c3 => ?_)
    · have hf := o_pos c3 hf
      refine lv_aload_n hx hb d_PM_clean_14 rfl (lv_at hl 0 rfl) ?_
      refine gf_PM_25 hC hP 0 rfl rfl d_PM_clean_15 ?_
      refine lv_iconst (v := 0) hx hb d_PM_clean_18 (by decide) ?_
      refine lv_iload_n hx hb d_PM_clean_19 rfl (lv_at hl 1 rfl) ?_
      refine lv_iadd hx hb d_PM_clean_20 ?_
      obtain ⟨v4, h5, hf⟩ := o_bind hf
      refine r_iald hC hP 2 rfl h5 d_PM_clean_21 ?_
      refine lv_iconst (v := 2) hx hb d_PM_clean_22 (by decide) ?_
      refine lv_icmp_ne (tgt := 29) hx hb d_PM_clean_23 (by decide) (fun c6 => ?_) (fun c6 => ?_)
      · have hf := o_neg c6 hf
        refine lv_aload_n hx hb d_PM_clean_29 rfl (lv_at hl 0 rfl) ?_
        obtain ⟨r7, h8, hf⟩ := o_bind hf
        refine cVv (rest := []) (wr := [(a_layer, .inl (cI, 12, .inl v_layer))]) (wn := (cs_PM_clean cI cZ a_p0 a_layer a_page a_book z_text z_cabman z_readLayer z_readCabman z_trial z_kept z_isKept z_seenCabman z_seenFinger z_seenOff z_seenCame z_value z_shows 0 v_textSize v_place v_cabmen v_readCabmen r7.1 v_seen v_seed v_bestCleaning v_bestLayers v_bestMany v_underMany v_underLeast v_restMany v_restFirst v_layer v_page r7.2)) (c_PM_note l D cI cZ a_p0 a_page a_book z_text a_layer z_cabman z_readLayer z_readCabman z_trial z_kept z_isKept z_seenCabman z_seenFinger z_seenOff z_seenCame z_value z_shows 0 v_textSize v_place v_cabmen v_readCabmen v_acts v_seen v_seed v_bestCleaning v_bestLayers v_bestMany v_underMany v_underLeast v_restMany v_restFirst v_page v_book r7 h8) hC hA hP hD hS hl.1 cw_PM_142 0 rfl rfl rfl ⟨Nat.le_of_ble_eq_true rfl, Nat.le_of_ble_eq_true rfl⟩ rfl rfl (Nat.le_of_ble_eq_true rfl) d_PM_clean_30 ⟨Nat.zero_le _, Nat.zero_le _⟩ [0, 2, 3] [1] [1, 0, 2, 3] (by decide) (Cut_mk rfl rfl (by decide) (by decide) (by decide) rfl) (fun H locs hP hD hS => ?_)
        refine lv_aload_n hx hb d_PM_clean_33 rfl (lv_at hl 0 rfl) ?_
        refine gf_PM_25 hC hP 0 rfl rfl d_PM_clean_34 ?_
        refine lv_iconst (v := 0) hx hb d_PM_clean_37 (by decide) ?_
        refine lv_iload_n hx hb d_PM_clean_38 rfl (lv_at hl 1 rfl) ?_
        refine lv_iadd hx hb d_PM_clean_39 ?_
        refine lv_dup2_11 hx hb d_PM_clean_40 rfl rfl ?_
        obtain ⟨v9, h10, hf⟩ := o_bind hf
        refine r_iald hC hP 2 rfl h10 d_PM_clean_41 ?_
        refine lv_iconst (v := 1) hx hb d_PM_clean_42 (by decide) ?_
        refine lv_iadd hx hb d_PM_clean_43 ?_
        obtain ⟨g11, h12, hf⟩ := o_bind hf
        refine r_iast hC hP hD hS 2 rfl h12 d_PM_clean_44 (fun H locs hP hD hS => ?_)
        have hP : va_P D classes (cs_PM_clean cI cZ a_p0 a_layer a_page a_book z_text z_cabman z_readLayer z_readCabman z_trial z_kept z_isKept z_seenCabman z_seenFinger z_seenOff z_seenCame z_value z_shows 0 v_textSize v_place v_cabmen v_readCabmen r7.1 v_seen v_seed v_bestCleaning v_bestLayers v_bestMany v_underMany v_underLeast v_restMany v_restFirst v_layer g11 r7.2) H := hP
        have hD : va_D A (cs_PM_clean cI cZ a_p0 a_layer a_page a_book z_text z_cabman z_readLayer z_readCabman z_trial z_kept z_isKept z_seenCabman z_seenFinger z_seenOff z_seenCame z_value z_shows 0 v_textSize v_place v_cabmen v_readCabmen r7.1 v_seen v_seed v_bestCleaning v_bestLayers v_bestMany v_underMany v_underLeast v_restMany v_restFirst v_layer g11 r7.2) := hD
        refine lv_aload_n hx hb d_PM_clean_45 rfl (lv_at hl 0 rfl) ?_
        refine gf_PM_13 hC hP 0 rfl rfl d_PM_clean_46 ?_
        refine lv_iconst (v := 3) hx hb d_PM_clean_49 (by decide) ?_
        refine lv_iload_n hx hb d_PM_clean_50 rfl (lv_at hl 1 rfl) ?_
        refine lv_imul hx hb d_PM_clean_51 ?_
        refine lv_aload_n hx hb d_PM_clean_52 rfl (lv_at hl 0 rfl) ?_
        refine gf_PM_25 hC hP 0 rfl rfl d_PM_clean_53 ?_
        refine lv_iconst (v := 0) hx hb d_PM_clean_56 (by decide) ?_
        refine lv_iload_n hx hb d_PM_clean_57 rfl (lv_at hl 1 rfl) ?_
        refine lv_iadd hx hb d_PM_clean_58 ?_
        obtain ⟨v13, h14, hf⟩ := o_bind hf
        refine r_iald hC hP 2 rfl h14 d_PM_clean_59 ?_
        refine lv_iadd hx hb d_PM_clean_60 ?_
        obtain ⟨v15, h16, hf⟩ := o_bind hf
        refine r_iald hC hP 1 rfl h16 d_PM_clean_61 ?_
        have hr := Option.some.inj hf
        exact RET _ _ _ _ _ _ rfl (congrArg (fun r : Int32 × Int32 × Int32 × (Nat → Int32) × (Nat → Int32) => r.1) hr) (congrArg (fun r : Int32 × Int32 × Int32 × (Nat → Int32) × (Nat → Int32) => (cs_PM_clean cI cZ a_p0 a_layer a_page a_book z_text z_cabman z_readLayer z_readCabman z_trial z_kept z_isKept z_seenCabman z_seenFinger z_seenOff z_seenCame z_value z_shows r.2.1 v_textSize v_place v_cabmen v_readCabmen r.2.2.1 v_seen v_seed v_bestCleaning v_bestLayers v_bestMany v_underMany v_underLeast v_restMany v_restFirst v_layer r.2.2.2.1 r.2.2.2.2)) hr) hP hD hS d_PM_clean_62
      · have hf := o_pos c6 hf
        refine lv_bipush (v := (-3)) hx hb d_PM_clean_26 (by decide) ?_
        have hr := Option.some.inj hf
        exact RET _ _ _ _ _ _ rfl (congrArg (fun r : Int32 × Int32 × Int32 × (Nat → Int32) × (Nat → Int32) => r.1) hr) (congrArg (fun r : Int32 × Int32 × Int32 × (Nat → Int32) × (Nat → Int32) => (cs_PM_clean cI cZ a_p0 a_layer a_page a_book z_text z_cabman z_readLayer z_readCabman z_trial z_kept z_isKept z_seenCabman z_seenFinger z_seenOff z_seenCame z_value z_shows r.2.1 v_textSize v_place v_cabmen v_readCabmen r.2.2.1 v_seen v_seed v_bestCleaning v_bestLayers v_bestMany v_underMany v_underLeast v_restMany v_restFirst v_layer r.2.2.2.1 r.2.2.2.2)) hr) hP hD hS d_PM_clean_28
    · have hf := o_neg c3 hf
      refine lv_iconst (v := (-1)) hx hb d_PM_clean_12 (by decide) ?_
      have hr := Option.some.inj hf
      exact RET _ _ _ _ _ _ rfl (congrArg (fun r : Int32 × Int32 × Int32 × (Nat → Int32) × (Nat → Int32) => r.1) hr) (congrArg (fun r : Int32 × Int32 × Int32 × (Nat → Int32) × (Nat → Int32) => (cs_PM_clean cI cZ a_p0 a_layer a_page a_book z_text z_cabman z_readLayer z_readCabman z_trial z_kept z_isKept z_seenCabman z_seenFinger z_seenOff z_seenCame z_value z_shows r.2.1 v_textSize v_place v_cabmen v_readCabmen r.2.2.1 v_seen v_seed v_bestCleaning v_bestLayers v_bestMany v_underMany v_underLeast v_restMany v_restFirst v_layer r.2.2.2.1 r.2.2.2.2)) hr) hP hD hS d_PM_clean_13
  exact E _ _ hP hS
set_option maxHeartbeats 4000000 in
set_option maxRecDepth 100000 in
theorem c_PM_paint (l : Launch) (D : va_G) (cI cZ : ClassId) (a_p0 a_layer a_page a_book z_text z_cabman z_readLayer z_readCabman z_trial z_kept z_isKept z_seenCabman z_seenFinger z_seenOff z_seenCame z_value z_shows : Nat) (i1 : Int32) (v_thrown : Int32) (v_textSize : Int32) (v_place : Int32) (v_cabmen : Int32) (v_readCabmen : Int32) (v_acts : Int32) (v_seen : Int32) (v_seed : Int64) (v_bestCleaning : Int32) (v_bestLayers : Int32) (v_bestMany : Int32) (v_underMany : Int32) (v_underLeast : Int32) (v_restMany : Int32) (v_restFirst : Int32) (v_layer : Nat → Int32) (v_page : Nat → Int32) (v_book : Nat → Int32) (res : Int32 × Int32 × Int32 × (Nat → Int32) × (Nat → Int32)) (hf : f_PM_paint i1 v_layer v_thrown v_acts v_page v_book = some res) : CtI l y_PM_paint b_PM_paint 2 (some .int) 2 D cI cZ [.ref a_p0, .int i1] (cs_PM_paint cI cZ a_p0 a_layer a_page a_book z_text z_cabman z_readLayer z_readCabman z_trial z_kept z_isKept z_seenCabman z_seenFinger z_seenOff z_seenCame z_value z_shows v_thrown v_textSize v_place v_cabmen v_readCabmen v_acts v_seen v_seed v_bestCleaning v_bestLayers v_bestMany v_underMany v_underLeast v_restMany v_restFirst v_layer v_page v_book) res.1 (cs_PM_paint cI cZ a_p0 a_layer a_page a_book z_text z_cabman z_readLayer z_readCabman z_trial z_kept z_isKept z_seenCabman z_seenFinger z_seenOff z_seenCame z_value z_shows res.2.1 v_textSize v_place v_cabmen v_readCabmen res.2.2.1 v_seen v_seed v_bestCleaning v_bestLayers v_bestMany v_underMany v_underLeast v_restMany v_restFirst v_layer res.2.2.2.1 res.2.2.2.2) := by
  refine CtI_mk (by decide) (Nat.le_of_ble_eq_true rfl) ?_
  intro p e s m args below meth c A Q hC hA hP hD RET ls hl
  have hC : Cx p s m args meth c b_PM_paint 2 R_PM D cI cZ := hC
  have hl : lv_has ls 2 [(0, .ref a_p0), (1, .int i1)] := hl
  obtain ⟨hx, hb, hml, hown, hts, hlk, hKK⟩ := id hC
  have hS : va_S A s.heap s.heap [] := va_S.rf
  unfold f_PM_paint at hf
  have E : ∀ (H : Heap) (locs : List Loc), va_P D classes (cs_PM_paint cI cZ a_p0 a_layer a_page a_book z_text z_cabman z_readLayer z_readCabman z_trial z_kept z_isKept z_seenCabman z_seenFinger z_seenOff z_seenCame z_value z_shows v_thrown v_textSize v_place v_cabmen v_readCabmen v_acts v_seen v_seed v_bestCleaning v_bestLayers v_bestMany v_underMany v_underLeast v_restMany v_restFirst v_layer v_page v_book) H → va_S A s.heap H locs → W p l e (rm_ 2 (40 * 2)) s m args below meth c H locs 0 0 Q (F0 m 0 ls []) := by
    intro H locs hP hS
    refine lv_aload_n hx hb d_PM_paint_0 rfl (lv_at hl 0 rfl) ?_
    refine lv_iconst (v := 0) hx hb d_PM_paint_1 (by decide) ?_
    refine pf_PM_59 hC hP hD hS 0 rfl (Nat.le_of_ble_eq_true rfl) d_PM_paint_2 (fun H locs hP hD hS => ?_)
    have hP : va_P D classes (cs_PM_paint cI cZ a_p0 a_layer a_page a_book z_text z_cabman z_readLayer z_readCabman z_trial z_kept z_isKept z_seenCabman z_seenFinger z_seenOff z_seenCame z_value z_shows 0 v_textSize v_place v_cabmen v_readCabmen v_acts v_seen v_seed v_bestCleaning v_bestLayers v_bestMany v_underMany v_underLeast v_restMany v_restFirst v_layer v_page v_book) H := hP
    have hD : va_D A (cs_PM_paint cI cZ a_p0 a_layer a_page a_book z_text z_cabman z_readLayer z_readCabman z_trial z_kept z_isKept z_seenCabman z_seenFinger z_seenOff z_seenCame z_value z_shows 0 v_textSize v_place v_cabmen v_readCabmen v_acts v_seen v_seed v_bestCleaning v_bestLayers v_bestMany v_underMany v_underLeast v_restMany v_restFirst v_layer v_page v_book) := hD
    refine lv_iload_n hx hb d_PM_paint_5 rfl (lv_at hl 1 rfl) ?_
    obtain ⟨r1, h2, hf⟩ := o_bind hf
    refine cSi0 (rest := []) (c_PM_noFinger l D cI cZ i1 r1 h2) hC hA hP hD hS hl.1 cw_PM_127 ⟨Nat.le_of_ble_eq_true rfl, Nat.le_of_ble_eq_true rfl⟩ rfl rfl (Nat.le_of_ble_eq_true rfl) d_PM_paint_6 ⟨Nat.zero_le _, Nat.zero_le _⟩ (fun H locs hP hS => ?_)
    refine lv_if_eq (tgt := 14) hx hb d_PM_paint_9 (by decide) (fun c3 => ?_) (fun c3 => ?_)
    · have hf := o_pos c3 hf
      refine lv_aload_n hx hb d_PM_paint_14 rfl (lv_at hl 0 rfl) ?_
      refine gf_PM_25 hC hP 0 rfl rfl d_PM_paint_15 ?_
      refine lv_iconst (v := 0) hx hb d_PM_paint_18 (by decide) ?_
      refine lv_iload_n hx hb d_PM_paint_19 rfl (lv_at hl 1 rfl) ?_
      refine lv_iadd hx hb d_PM_paint_20 ?_
      obtain ⟨v4, h5, hf⟩ := o_bind hf
      refine r_iald hC hP 2 rfl h5 d_PM_paint_21 ?_
      refine lv_if_ne (tgt := 28) hx hb d_PM_paint_22 (by decide) (fun c6 => ?_) (fun c6 => ?_)
      · have hf := o_neg c6 hf
        refine lv_aload_n hx hb d_PM_paint_28 rfl (lv_at hl 0 rfl) ?_
        obtain ⟨r7, h8, hf⟩ := o_bind hf
        refine cVv (rest := []) (wr := [(a_layer, .inl (cI, 12, .inl v_layer))]) (wn := (cs_PM_paint cI cZ a_p0 a_layer a_page a_book z_text z_cabman z_readLayer z_readCabman z_trial z_kept z_isKept z_seenCabman z_seenFinger z_seenOff z_seenCame z_value z_shows 0 v_textSize v_place v_cabmen v_readCabmen r7.1 v_seen v_seed v_bestCleaning v_bestLayers v_bestMany v_underMany v_underLeast v_restMany v_restFirst v_layer v_page r7.2)) (c_PM_note l D cI cZ a_p0 a_page a_book z_text a_layer z_cabman z_readLayer z_readCabman z_trial z_kept z_isKept z_seenCabman z_seenFinger z_seenOff z_seenCame z_value z_shows 0 v_textSize v_place v_cabmen v_readCabmen v_acts v_seen v_seed v_bestCleaning v_bestLayers v_bestMany v_underMany v_underLeast v_restMany v_restFirst v_page v_book r7 h8) hC hA hP hD hS hl.1 cw_PM_142 0 rfl rfl rfl ⟨Nat.le_of_ble_eq_true rfl, Nat.le_of_ble_eq_true rfl⟩ rfl rfl (Nat.le_of_ble_eq_true rfl) d_PM_paint_29 ⟨Nat.zero_le _, Nat.zero_le _⟩ [0, 2, 3] [1] [1, 0, 2, 3] (by decide) (Cut_mk rfl rfl (by decide) (by decide) (by decide) rfl) (fun H locs hP hD hS => ?_)
        refine lv_aload_n hx hb d_PM_paint_32 rfl (lv_at hl 0 rfl) ?_
        refine gf_PM_25 hC hP 0 rfl rfl d_PM_paint_33 ?_
        refine lv_iconst (v := 0) hx hb d_PM_paint_36 (by decide) ?_
        refine lv_iload_n hx hb d_PM_paint_37 rfl (lv_at hl 1 rfl) ?_
        refine lv_iadd hx hb d_PM_paint_38 ?_
        refine lv_dup2_11 hx hb d_PM_paint_39 rfl rfl ?_
        obtain ⟨v9, h10, hf⟩ := o_bind hf
        refine r_iald hC hP 2 rfl h10 d_PM_paint_40 ?_
        refine lv_iconst (v := 1) hx hb d_PM_paint_41 (by decide) ?_
        refine lv_isub hx hb d_PM_paint_42 ?_
        obtain ⟨g11, h12, hf⟩ := o_bind hf
        refine r_iast hC hP hD hS 2 rfl h12 d_PM_paint_43 (fun H locs hP hD hS => ?_)
        have hP : va_P D classes (cs_PM_paint cI cZ a_p0 a_layer a_page a_book z_text z_cabman z_readLayer z_readCabman z_trial z_kept z_isKept z_seenCabman z_seenFinger z_seenOff z_seenCame z_value z_shows 0 v_textSize v_place v_cabmen v_readCabmen r7.1 v_seen v_seed v_bestCleaning v_bestLayers v_bestMany v_underMany v_underLeast v_restMany v_restFirst v_layer g11 r7.2) H := hP
        have hD : va_D A (cs_PM_paint cI cZ a_p0 a_layer a_page a_book z_text z_cabman z_readLayer z_readCabman z_trial z_kept z_isKept z_seenCabman z_seenFinger z_seenOff z_seenCame z_value z_shows 0 v_textSize v_place v_cabmen v_readCabmen r7.1 v_seen v_seed v_bestCleaning v_bestLayers v_bestMany v_underMany v_underLeast v_restMany v_restFirst v_layer g11 r7.2) := hD
        refine lv_aload_n hx hb d_PM_paint_44 rfl (lv_at hl 0 rfl) ?_
        refine gf_PM_13 hC hP 0 rfl rfl d_PM_paint_45 ?_
        refine lv_iconst (v := 3) hx hb d_PM_paint_48 (by decide) ?_
        refine lv_iload_n hx hb d_PM_paint_49 rfl (lv_at hl 1 rfl) ?_
        refine lv_imul hx hb d_PM_paint_50 ?_
        refine lv_aload_n hx hb d_PM_paint_51 rfl (lv_at hl 0 rfl) ?_
        refine gf_PM_25 hC hP 0 rfl rfl d_PM_paint_52 ?_
        refine lv_iconst (v := 0) hx hb d_PM_paint_55 (by decide) ?_
        refine lv_iload_n hx hb d_PM_paint_56 rfl (lv_at hl 1 rfl) ?_
        refine lv_iadd hx hb d_PM_paint_57 ?_
        obtain ⟨v13, h14, hf⟩ := o_bind hf
        refine r_iald hC hP 2 rfl h14 d_PM_paint_58 ?_
        refine lv_iadd hx hb d_PM_paint_59 ?_
        obtain ⟨v15, h16, hf⟩ := o_bind hf
        refine r_iald hC hP 1 rfl h16 d_PM_paint_60 ?_
        have hr := Option.some.inj hf
        exact RET _ _ _ _ _ _ rfl (congrArg (fun r : Int32 × Int32 × Int32 × (Nat → Int32) × (Nat → Int32) => r.1) hr) (congrArg (fun r : Int32 × Int32 × Int32 × (Nat → Int32) × (Nat → Int32) => (cs_PM_paint cI cZ a_p0 a_layer a_page a_book z_text z_cabman z_readLayer z_readCabman z_trial z_kept z_isKept z_seenCabman z_seenFinger z_seenOff z_seenCame z_value z_shows r.2.1 v_textSize v_place v_cabmen v_readCabmen r.2.2.1 v_seen v_seed v_bestCleaning v_bestLayers v_bestMany v_underMany v_underLeast v_restMany v_restFirst v_layer r.2.2.2.1 r.2.2.2.2)) hr) hP hD hS d_PM_paint_61
      · have hf := o_pos c6 hf
        refine lv_bipush (v := (-3)) hx hb d_PM_paint_25 (by decide) ?_
        have hr := Option.some.inj hf
        exact RET _ _ _ _ _ _ rfl (congrArg (fun r : Int32 × Int32 × Int32 × (Nat → Int32) × (Nat → Int32) => r.1) hr) (congrArg (fun r : Int32 × Int32 × Int32 × (Nat → Int32) × (Nat → Int32) => (cs_PM_paint cI cZ a_p0 a_layer a_page a_book z_text z_cabman z_readLayer z_readCabman z_trial z_kept z_isKept z_seenCabman z_seenFinger z_seenOff z_seenCame z_value z_shows r.2.1 v_textSize v_place v_cabmen v_readCabmen r.2.2.1 v_seen v_seed v_bestCleaning v_bestLayers v_bestMany v_underMany v_underLeast v_restMany v_restFirst v_layer r.2.2.2.1 r.2.2.2.2)) hr) hP hD hS d_PM_paint_27
    · have hf := o_neg c3 hf
      refine lv_iconst (v := (-1)) hx hb d_PM_paint_12 (by decide) ?_
      have hr := Option.some.inj hf
      exact RET _ _ _ _ _ _ rfl (congrArg (fun r : Int32 × Int32 × Int32 × (Nat → Int32) × (Nat → Int32) => r.1) hr) (congrArg (fun r : Int32 × Int32 × Int32 × (Nat → Int32) × (Nat → Int32) => (cs_PM_paint cI cZ a_p0 a_layer a_page a_book z_text z_cabman z_readLayer z_readCabman z_trial z_kept z_isKept z_seenCabman z_seenFinger z_seenOff z_seenCame z_value z_shows r.2.1 v_textSize v_place v_cabmen v_readCabmen r.2.2.1 v_seen v_seed v_bestCleaning v_bestLayers v_bestMany v_underMany v_underLeast v_restMany v_restFirst v_layer r.2.2.2.1 r.2.2.2.2)) hr) hP hD hS d_PM_paint_13
  exact E _ _ hP hS
set_option maxHeartbeats 4000000 in
set_option maxRecDepth 100000 in
theorem c_PM_send (l : Launch) (D : va_G) (cI cZ : ClassId) (a_p0 a_page a_book z_text z_layer z_cabman z_readLayer z_readCabman z_trial z_kept z_isKept z_seenCabman z_seenFinger z_seenOff z_seenCame z_value z_shows : Nat) (v_thrown : Int32) (v_textSize : Int32) (v_place : Int32) (v_cabmen : Int32) (v_readCabmen : Int32) (v_acts : Int32) (v_seen : Int32) (v_seed : Int64) (v_bestCleaning : Int32) (v_bestLayers : Int32) (v_bestMany : Int32) (v_underMany : Int32) (v_underLeast : Int32) (v_restMany : Int32) (v_restFirst : Int32) (v_page : Nat → Int32) (v_book : Nat → Int32) (res : Int32 × Int32 × Int32 × (Nat → Int32) × (Nat → Int32)) (hf : f_PM_send v_thrown v_acts v_page v_book = some res) : CtI l y_PM_send b_PM_send 2 (some .int) 1 D cI cZ [.ref a_p0] (cs_PM_send cI cZ a_p0 a_page a_book z_text z_layer z_cabman z_readLayer z_readCabman z_trial z_kept z_isKept z_seenCabman z_seenFinger z_seenOff z_seenCame z_value z_shows v_thrown v_textSize v_place v_cabmen v_readCabmen v_acts v_seen v_seed v_bestCleaning v_bestLayers v_bestMany v_underMany v_underLeast v_restMany v_restFirst v_page v_book) res.1 (cs_PM_send cI cZ a_p0 a_page a_book z_text z_layer z_cabman z_readLayer z_readCabman z_trial z_kept z_isKept z_seenCabman z_seenFinger z_seenOff z_seenCame z_value z_shows res.2.1 v_textSize v_place v_cabmen v_readCabmen res.2.2.1 v_seen v_seed v_bestCleaning v_bestLayers v_bestMany v_underMany v_underLeast v_restMany v_restFirst res.2.2.2.1 res.2.2.2.2) := by
  refine CtI_mk (by decide) (Nat.le_of_ble_eq_true rfl) ?_
  intro p e s m args below meth c A Q hC hA hP hD RET ls hl
  have hC : Cx p s m args meth c b_PM_send 2 R_PM D cI cZ := hC
  have hl : lv_has ls 2 [(0, .ref a_p0)] := hl
  obtain ⟨hx, hb, hml, hown, hts, hlk, hKK⟩ := id hC
  have hS : va_S A s.heap s.heap [] := va_S.rf
  unfold f_PM_send at hf
  have E : ∀ (H : Heap) (locs : List Loc), va_P D classes (cs_PM_send cI cZ a_p0 a_page a_book z_text z_layer z_cabman z_readLayer z_readCabman z_trial z_kept z_isKept z_seenCabman z_seenFinger z_seenOff z_seenCame z_value z_shows v_thrown v_textSize v_place v_cabmen v_readCabmen v_acts v_seen v_seed v_bestCleaning v_bestLayers v_bestMany v_underMany v_underLeast v_restMany v_restFirst v_page v_book) H → va_S A s.heap H locs → W p l e (rm_ 1 (40 * 1)) s m args below meth c H locs 0 0 Q (F0 m 0 ls []) := by
    intro H locs hP hS
    refine lv_aload_n hx hb d_PM_send_0 rfl (lv_at hl 0 rfl) ?_
    refine lv_iconst (v := 0) hx hb d_PM_send_1 (by decide) ?_
    refine pf_PM_59 hC hP hD hS 0 rfl (Nat.le_of_ble_eq_true rfl) d_PM_send_2 (fun H locs hP hD hS => ?_)
    have hP : va_P D classes (cs_PM_send cI cZ a_p0 a_page a_book z_text z_layer z_cabman z_readLayer z_readCabman z_trial z_kept z_isKept z_seenCabman z_seenFinger z_seenOff z_seenCame z_value z_shows 0 v_textSize v_place v_cabmen v_readCabmen v_acts v_seen v_seed v_bestCleaning v_bestLayers v_bestMany v_underMany v_underLeast v_restMany v_restFirst v_page v_book) H := hP
    have hD : va_D A (cs_PM_send cI cZ a_p0 a_page a_book z_text z_layer z_cabman z_readLayer z_readCabman z_trial z_kept z_isKept z_seenCabman z_seenFinger z_seenOff z_seenCame z_value z_shows 0 v_textSize v_place v_cabmen v_readCabmen v_acts v_seen v_seed v_bestCleaning v_bestLayers v_bestMany v_underMany v_underLeast v_restMany v_restFirst v_page v_book) := hD
    refine lv_aload_n hx hb d_PM_send_5 rfl (lv_at hl 0 rfl) ?_
    refine gf_PM_25 hC hP 0 rfl rfl d_PM_send_6 ?_
    refine lv_iconst (v := 4) hx hb d_PM_send_9 (by decide) ?_
    obtain ⟨v1, h2, hf⟩ := o_bind hf
    refine r_iald hC hP 1 rfl h2 d_PM_send_10 ?_
    refine lv_if_ne (tgt := 17) hx hb d_PM_send_11 (by decide) (fun c3 => ?_) (fun c3 => ?_)
    · have hf := o_neg c3 hf
      refine lv_aload_n hx hb d_PM_send_17 rfl (lv_at hl 0 rfl) ?_
      obtain ⟨r4, h5, hf⟩ := o_bind hf
      refine cVv (rest := []) (wr := []) (wn := (cs_PM_send cI cZ a_p0 a_page a_book z_text z_layer z_cabman z_readLayer z_readCabman z_trial z_kept z_isKept z_seenCabman z_seenFinger z_seenOff z_seenCame z_value z_shows 0 v_textSize v_place v_cabmen v_readCabmen r4.1 v_seen v_seed v_bestCleaning v_bestLayers v_bestMany v_underMany v_underLeast v_restMany v_restFirst v_page r4.2)) (c_PM_note l D cI cZ a_p0 a_page a_book z_text z_layer z_cabman z_readLayer z_readCabman z_trial z_kept z_isKept z_seenCabman z_seenFinger z_seenOff z_seenCame z_value z_shows 0 v_textSize v_place v_cabmen v_readCabmen v_acts v_seen v_seed v_bestCleaning v_bestLayers v_bestMany v_underMany v_underLeast v_restMany v_restFirst v_page v_book r4 h5) hC hA hP hD hS hl.1 cw_PM_142 0 rfl rfl rfl ⟨Nat.le_of_ble_eq_true rfl, Nat.le_of_ble_eq_true rfl⟩ rfl rfl (Nat.le_of_ble_eq_true rfl) d_PM_send_18 ⟨Nat.zero_le _, Nat.zero_le _⟩ [0, 1, 2] [] [0, 1, 2] (by decide) (Cut_mk rfl rfl (by decide) (by decide) (by decide) rfl) (fun H locs hP hD hS => ?_)
      refine lv_aload_n hx hb d_PM_send_21 rfl (lv_at hl 0 rfl) ?_
      refine gf_PM_25 hC hP 0 rfl rfl d_PM_send_22 ?_
      refine lv_iconst (v := 5) hx hb d_PM_send_25 (by decide) ?_
      obtain ⟨v6, h7, hf⟩ := o_bind hf
      refine r_iald hC hP 1 rfl h7 d_PM_send_26 ?_
      refine lv_istore_n (lv' := [(1, .int v6), (0, .ref a_p0)]) hx hb d_PM_send_27 rfl hl (by decide) rfl (fun ls hl => ?_)
      refine lv_aload_n hx hb d_PM_send_28 rfl (lv_at hl 1 rfl) ?_
      refine gf_PM_25 hC hP 0 rfl rfl d_PM_send_29 ?_
      refine lv_iload_n hx hb d_PM_send_32 rfl (lv_at hl 0 rfl) ?_
      obtain ⟨r8, h9, hf⟩ := o_bind hf
      refine cSv (rest := []) (wr := [(a_p0, .inr (7, [.int 0, .ref z_text, .int v_textSize, .int v_place, .ref z_layer, .int v_cabmen, .ref z_cabman, .ref z_readLayer, .int v_readCabmen, .ref z_readCabman, .ref a_page, .ref z_trial, .ref a_book, .int r4.1, .ref z_kept, .ref z_isKept, .int v_seen, .ref z_seenCabman, .ref z_seenFinger, .ref z_seenOff, .ref z_seenCame, .long v_seed, .int v_bestCleaning, .int v_bestLayers, .int v_bestMany, .int v_underMany, .int v_underLeast, .int v_restMany, .int v_restFirst, .ref z_value, .ref z_shows])), (a_book, .inl (cI, 224, .inl r4.2))]) (wn := (cs_PM_send cI cZ a_p0 a_page a_book z_text z_layer z_cabman z_readLayer z_readCabman z_trial z_kept z_isKept z_seenCabman z_seenFinger z_seenOff z_seenCame z_value z_shows 0 v_textSize v_place v_cabmen v_readCabmen r4.1 v_seen v_seed v_bestCleaning v_bestLayers v_bestMany v_underMany v_underLeast v_restMany v_restFirst r8 r4.2)) (c_PM_goAway l D cI cZ a_page v6 v_page r8 h9) hC hA hP hD hS hl.1 cw_PM_138 ⟨Nat.le_of_ble_eq_true rfl, Nat.le_of_ble_eq_true rfl⟩ rfl rfl (Nat.le_of_ble_eq_true rfl) d_PM_send_33 ⟨Nat.zero_le _, Nat.zero_le _⟩ [1] [0, 2] [0, 2, 1] (by decide) (Cut_mk rfl rfl (by decide) (by decide) (by decide) rfl) (fun H locs hP hD hS => ?_)
      refine lv_iload_n hx hb d_PM_send_36 rfl (lv_at hl 0 rfl) ?_
      have hr := Option.some.inj hf
      exact RET _ _ _ _ _ _ rfl (congrArg (fun r : Int32 × Int32 × Int32 × (Nat → Int32) × (Nat → Int32) => r.1) hr) (congrArg (fun r : Int32 × Int32 × Int32 × (Nat → Int32) × (Nat → Int32) => (cs_PM_send cI cZ a_p0 a_page a_book z_text z_layer z_cabman z_readLayer z_readCabman z_trial z_kept z_isKept z_seenCabman z_seenFinger z_seenOff z_seenCame z_value z_shows r.2.1 v_textSize v_place v_cabmen v_readCabmen r.2.2.1 v_seen v_seed v_bestCleaning v_bestLayers v_bestMany v_underMany v_underLeast v_restMany v_restFirst r.2.2.2.1 r.2.2.2.2)) hr) hP hD hS d_PM_send_37
    · have hf := o_pos c3 hf
      refine lv_bipush (v := (-3)) hx hb d_PM_send_14 (by decide) ?_
      have hr := Option.some.inj hf
      exact RET _ _ _ _ _ _ rfl (congrArg (fun r : Int32 × Int32 × Int32 × (Nat → Int32) × (Nat → Int32) => r.1) hr) (congrArg (fun r : Int32 × Int32 × Int32 × (Nat → Int32) × (Nat → Int32) => (cs_PM_send cI cZ a_p0 a_page a_book z_text z_layer z_cabman z_readLayer z_readCabman z_trial z_kept z_isKept z_seenCabman z_seenFinger z_seenOff z_seenCame z_value z_shows r.2.1 v_textSize v_place v_cabmen v_readCabmen r.2.2.1 v_seen v_seed v_bestCleaning v_bestLayers v_bestMany v_underMany v_underLeast v_restMany v_restFirst r.2.2.2.1 r.2.2.2.2)) hr) hP hD hS d_PM_send_16
  exact E _ _ hP hS
