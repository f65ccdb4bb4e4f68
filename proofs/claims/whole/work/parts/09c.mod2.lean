set_option maxHeartbeats 4000000 in
set_option maxRecDepth 100000 in
theorem c_PM_undo (l : Launch) (D : va_G) (cI cZ : ClassId) (a_p0 a_page a_book z_text z_layer z_cabman z_readLayer z_readCabman z_trial z_kept z_isKept z_seenCabman z_seenFinger z_seenOff z_seenCame z_value z_shows : Nat) (v_thrown : Int32) (v_textSize : Int32) (v_place : Int32) (v_cabmen : Int32) (v_readCabmen : Int32) (v_acts : Int32) (v_seen : Int32) (v_seed : Int64) (v_bestCleaning : Int32) (v_bestLayers : Int32) (v_bestMany : Int32) (v_underMany : Int32) (v_underLeast : Int32) (v_restMany : Int32) (v_restFirst : Int32) (v_page : Nat → Int32) (v_book : Nat → Int32) (res : Int32 × Int32 × Int32 × (Nat → Int32)) (hf : f_PM_undo v_book v_thrown v_acts v_page = some res) : CtI l y_PM_undo b_PM_undo 2 (some .int) 0 D cI cZ [.ref a_p0] (cs_PM_undo cI cZ a_p0 a_page a_book z_text z_layer z_cabman z_readLayer z_readCabman z_trial z_kept z_isKept z_seenCabman z_seenFinger z_seenOff z_seenCame z_value z_shows v_thrown v_textSize v_place v_cabmen v_readCabmen v_acts v_seen v_seed v_bestCleaning v_bestLayers v_bestMany v_underMany v_underLeast v_restMany v_restFirst v_page v_book) res.1 (cs_PM_undo cI cZ a_p0 a_page a_book z_text z_layer z_cabman z_readLayer z_readCabman z_trial z_kept z_isKept z_seenCabman z_seenFinger z_seenOff z_seenCame z_value z_shows res.2.1 v_textSize v_place v_cabmen v_readCabmen res.2.2.1 v_seen v_seed v_bestCleaning v_bestLayers v_bestMany v_underMany v_underLeast v_restMany v_restFirst res.2.2.2 v_book) := by
  refine CtI_mk (by decide) (Nat.le_of_ble_eq_true rfl) ?_
  intro p e s m args below meth c A Q hC hA hP hD RET ls hl
  have hC : Cx p s m args meth c b_PM_undo 2 R_PM D cI cZ := hC
  have hl : lv_has ls 2 [(0, .ref a_p0)] := hl
  obtain ⟨hx, hb, hml, hown, hts, hlk, hKK⟩ := id hC
  have hS : va_S A s.heap s.heap [] := va_S.rf
  have B_27 : ∀  (n : Nat) (x1 : Int32) (v_thrown : Int32) (v_acts : Int32) (v_page : Nat → Int32) (H : Heap) (locs : List Loc) (ls : Array Slot), va_P D classes (cs_PM_undo cI cZ a_p0 a_page a_book z_text z_layer z_cabman z_readLayer z_readCabman z_trial z_kept z_isKept z_seenCabman z_seenFinger z_seenOff z_seenCame z_value z_shows v_thrown v_textSize v_place v_cabmen v_readCabmen v_acts v_seen v_seed v_bestCleaning v_bestLayers v_bestMany v_underMany v_underLeast v_restMany v_restFirst v_page v_book) H → va_D A (cs_PM_undo cI cZ a_p0 a_page a_book z_text z_layer z_cabman z_readLayer z_readCabman z_trial z_kept z_isKept z_seenCabman z_seenFinger z_seenOff z_seenCame z_value z_shows v_thrown v_textSize v_place v_cabmen v_readCabmen v_acts v_seen v_seed v_bestCleaning v_bestLayers v_bestMany v_underMany v_underLeast v_restMany v_restFirst v_page v_book) → va_S A s.heap H locs → lv_has ls 2 [(0, .ref a_p0), (1, .int x1)] → f_PM_undo_27  v_book n x1 v_thrown v_acts v_page = some res → W p l e (rm_ 0 (40 * 0)) s m args below meth c H locs 0 0 Q (F0 m 27 ls []) := by
    intro  n
    induction n with
    | zero => intro x1 v_thrown v_acts v_page H locs ls hP hD hS hl hf; exact nomatch hf
    | succ n ih =>
      intro x1 v_thrown v_acts v_page H locs ls hP hD hS hl hf
      have hf : f_PM_undo_27_b  (f_PM_undo_27  v_book n) v_book x1 v_thrown v_acts v_page = some res := hf
      generalize f_PM_undo_27  v_book n = back_27 at ih hf
      have K_27 := ih
      unfold f_PM_undo_27_b at hf
      refine lv_iload_n hx hb d_PM_undo_27 rfl (lv_at hl 1 rfl) ?_
      refine lv_bipush (v := 16) hx hb d_PM_undo_28 (by decide) ?_
      refine lv_icmp_ge (tgt := 59) hx hb d_PM_undo_30 (by decide) (fun c1 => ?_) (fun c1 => ?_)
      · have hf := o_pos c1 hf
        refine lv_aload_n hx hb d_PM_undo_59 rfl (lv_at hl 0 rfl) ?_
        refine gf_PM_102 hC hP 0 rfl rfl d_PM_undo_60 ?_
        have hr := Option.some.inj hf
        exact RET _ _ _ _ _ _ rfl (congrArg (fun r : Int32 × Int32 × Int32 × (Nat → Int32) => r.1) hr) (congrArg (fun r : Int32 × Int32 × Int32 × (Nat → Int32) => (cs_PM_undo cI cZ a_p0 a_page a_book z_text z_layer z_cabman z_readLayer z_readCabman z_trial z_kept z_isKept z_seenCabman z_seenFinger z_seenOff z_seenCame z_value z_shows r.2.1 v_textSize v_place v_cabmen v_readCabmen r.2.2.1 v_seen v_seed v_bestCleaning v_bestLayers v_bestMany v_underMany v_underLeast v_restMany v_restFirst r.2.2.2 v_book)) hr) hP hD hS d_PM_undo_63
      · have hf := o_neg c1 hf
        refine lv_aload_n hx hb d_PM_undo_33 rfl (lv_at hl 0 rfl) ?_
        refine gf_PM_25 hC hP 0 rfl rfl d_PM_undo_34 ?_
        refine lv_iload_n hx hb d_PM_undo_37 rfl (lv_at hl 1 rfl) ?_
        refine lv_aload_n hx hb d_PM_undo_38 rfl (lv_at hl 0 rfl) ?_
        refine gf_PM_31 hC hP 0 rfl rfl d_PM_undo_39 ?_
        refine lv_bipush (v := 16) hx hb d_PM_undo_42 (by decide) ?_
        refine lv_aload_n hx hb d_PM_undo_44 rfl (lv_at hl 0 rfl) ?_
        refine gf_PM_102 hC hP 0 rfl rfl d_PM_undo_45 ?_
        refine lv_imul hx hb d_PM_undo_48 ?_
        refine lv_iload_n hx hb d_PM_undo_49 rfl (lv_at hl 1 rfl) ?_
        refine lv_iadd hx hb d_PM_undo_50 ?_
        obtain ⟨v2, h3, hf⟩ := o_bind hf
        refine r_iald hC hP 2 rfl h3 d_PM_undo_51 ?_
        obtain ⟨g4, h5, hf⟩ := o_bind hf
        refine r_iast hC hP hD hS 1 rfl h5 d_PM_undo_52 (fun H locs hP hD hS => ?_)
        have hP : va_P D classes (cs_PM_undo cI cZ a_p0 a_page a_book z_text z_layer z_cabman z_readLayer z_readCabman z_trial z_kept z_isKept z_seenCabman z_seenFinger z_seenOff z_seenCame z_value z_shows v_thrown v_textSize v_place v_cabmen v_readCabmen v_acts v_seen v_seed v_bestCleaning v_bestLayers v_bestMany v_underMany v_underLeast v_restMany v_restFirst g4 v_book) H := hP
        have hD : va_D A (cs_PM_undo cI cZ a_p0 a_page a_book z_text z_layer z_cabman z_readLayer z_readCabman z_trial z_kept z_isKept z_seenCabman z_seenFinger z_seenOff z_seenCame z_value z_shows v_thrown v_textSize v_place v_cabmen v_readCabmen v_acts v_seen v_seed v_bestCleaning v_bestLayers v_bestMany v_underMany v_underLeast v_restMany v_restFirst g4 v_book) := hD
        refine lv_iinc (v := x1 + 1) (lv' := [(1, .int (x1 + 1)), (0, .ref a_p0)]) hx hb d_PM_undo_53 hl (k := 1) rfl (rfl) (by decide) rfl (fun ls hl => ?_)
        refine lv_goto (tgt := 27) hx hb d_PM_undo_56 (by decide) ?_
        exact K_27 (x1 + 1) v_thrown v_acts g4 _ _ _ hP hD hS (lv_sub hl [1, 0] rfl) hf
  unfold f_PM_undo at hf
  have E : ∀ (H : Heap) (locs : List Loc), va_P D classes (cs_PM_undo cI cZ a_p0 a_page a_book z_text z_layer z_cabman z_readLayer z_readCabman z_trial z_kept z_isKept z_seenCabman z_seenFinger z_seenOff z_seenCame z_value z_shows v_thrown v_textSize v_place v_cabmen v_readCabmen v_acts v_seen v_seed v_bestCleaning v_bestLayers v_bestMany v_underMany v_underLeast v_restMany v_restFirst v_page v_book) H → va_S A s.heap H locs → W p l e (rm_ 0 (40 * 0)) s m args below meth c H locs 0 0 Q (F0 m 0 ls []) := by
    intro H locs hP hS
    refine lv_aload_n hx hb d_PM_undo_0 rfl (lv_at hl 0 rfl) ?_
    refine lv_iconst (v := 0) hx hb d_PM_undo_1 (by decide) ?_
    refine pf_PM_59 hC hP hD hS 0 rfl (Nat.le_of_ble_eq_true rfl) d_PM_undo_2 (fun H locs hP hD hS => ?_)
    have hP : va_P D classes (cs_PM_undo cI cZ a_p0 a_page a_book z_text z_layer z_cabman z_readLayer z_readCabman z_trial z_kept z_isKept z_seenCabman z_seenFinger z_seenOff z_seenCame z_value z_shows 0 v_textSize v_place v_cabmen v_readCabmen v_acts v_seen v_seed v_bestCleaning v_bestLayers v_bestMany v_underMany v_underLeast v_restMany v_restFirst v_page v_book) H := hP
    have hD : va_D A (cs_PM_undo cI cZ a_p0 a_page a_book z_text z_layer z_cabman z_readLayer z_readCabman z_trial z_kept z_isKept z_seenCabman z_seenFinger z_seenOff z_seenCame z_value z_shows 0 v_textSize v_place v_cabmen v_readCabmen v_acts v_seen v_seed v_bestCleaning v_bestLayers v_bestMany v_underMany v_underLeast v_restMany v_restFirst v_page v_book) := hD
    refine lv_aload_n hx hb d_PM_undo_5 rfl (lv_at hl 0 rfl) ?_
    refine gf_PM_102 hC hP 0 rfl rfl d_PM_undo_6 ?_
    refine lv_if_ne (tgt := 15) hx hb d_PM_undo_9 (by decide) (fun c1 => ?_) (fun c1 => ?_)
    · have hf := o_neg c1 hf
      refine lv_aload_n hx hb d_PM_undo_15 rfl (lv_at hl 0 rfl) ?_
      refine lv_dup hx hb d_PM_undo_16 rfl ?_
      refine gf_PM_102 hC hP 0 rfl rfl d_PM_undo_17 ?_
      refine lv_iconst (v := 1) hx hb d_PM_undo_20 (by decide) ?_
      refine lv_isub hx hb d_PM_undo_21 ?_
      refine pf_PM_102 hC hP hD hS 0 rfl (Nat.le_of_ble_eq_true rfl) d_PM_undo_22 (fun H locs hP hD hS => ?_)
      have hP : va_P D classes (cs_PM_undo cI cZ a_p0 a_page a_book z_text z_layer z_cabman z_readLayer z_readCabman z_trial z_kept z_isKept z_seenCabman z_seenFinger z_seenOff z_seenCame z_value z_shows 0 v_textSize v_place v_cabmen v_readCabmen (v_acts - 1) v_seen v_seed v_bestCleaning v_bestLayers v_bestMany v_underMany v_underLeast v_restMany v_restFirst v_page v_book) H := hP
      have hD : va_D A (cs_PM_undo cI cZ a_p0 a_page a_book z_text z_layer z_cabman z_readLayer z_readCabman z_trial z_kept z_isKept z_seenCabman z_seenFinger z_seenOff z_seenCame z_value z_shows 0 v_textSize v_place v_cabmen v_readCabmen (v_acts - 1) v_seen v_seed v_bestCleaning v_bestLayers v_bestMany v_underMany v_underLeast v_restMany v_restFirst v_page v_book) := hD
      refine lv_iconst (v := 0) hx hb d_PM_undo_25 (by decide) ?_
      refine lv_istore_n (lv' := [(1, .int 0), (0, .ref a_p0)]) hx hb d_PM_undo_26 rfl hl (by decide) rfl (fun ls hl => ?_)
      exact B_27 300 0 0 (v_acts - 1) v_page _ _ _ hP hD hS (lv_sub hl [1, 0] rfl) hf
    · have hf := o_pos c1 hf
      refine lv_bipush (v := (-3)) hx hb d_PM_undo_12 (by decide) ?_
      have hr := Option.some.inj hf
      exact RET _ _ _ _ _ _ rfl (congrArg (fun r : Int32 × Int32 × Int32 × (Nat → Int32) => r.1) hr) (congrArg (fun r : Int32 × Int32 × Int32 × (Nat → Int32) => (cs_PM_undo cI cZ a_p0 a_page a_book z_text z_layer z_cabman z_readLayer z_readCabman z_trial z_kept z_isKept z_seenCabman z_seenFinger z_seenOff z_seenCame z_value z_shows r.2.1 v_textSize v_place v_cabmen v_readCabmen r.2.2.1 v_seen v_seed v_bestCleaning v_bestLayers v_bestMany v_underMany v_underLeast v_restMany v_restFirst r.2.2.2 v_book)) hr) hP hD hS d_PM_undo_14
  exact E _ _ hP hS
set_option maxHeartbeats 4000000 in
set_option maxRecDepth 100000 in
theorem c_PM_begin (l : Launch) (D : va_G) (cI cZ : ClassId) (a_p0 a_page a_trial z_text z_layer z_cabman z_readLayer z_readCabman z_book z_kept z_isKept z_seenCabman z_seenFinger z_seenOff z_seenCame z_value z_shows : Nat) (v_thrown : Int32) (v_textSize : Int32) (v_place : Int32) (v_cabmen : Int32) (v_readCabmen : Int32) (v_acts : Int32) (v_seen : Int32) (v_seed : Int64) (v_bestCleaning : Int32) (v_bestLayers : Int32) (v_bestMany : Int32) (v_underMany : Int32) (v_underLeast : Int32) (v_restMany : Int32) (v_restFirst : Int32) (v_page : Nat → Int32) (v_trial : Nat → Int32) (res : (Nat → Int32)) (hf : f_PM_begin v_page v_trial = some res) : CtV l y_PM_begin b_PM_begin 2 none 0 D cI cZ [.ref a_p0] (cs_PM_begin cI cZ a_p0 a_page a_trial z_text z_layer z_cabman z_readLayer z_readCabman z_book z_kept z_isKept z_seenCabman z_seenFinger z_seenOff z_seenCame z_value z_shows v_thrown v_textSize v_place v_cabmen v_readCabmen v_acts v_seen v_seed v_bestCleaning v_bestLayers v_bestMany v_underMany v_underLeast v_restMany v_restFirst v_page v_trial) (cs_PM_begin cI cZ a_p0 a_page a_trial z_text z_layer z_cabman z_readLayer z_readCabman z_book z_kept z_isKept z_seenCabman z_seenFinger z_seenOff z_seenCame z_value z_shows v_thrown v_textSize v_place v_cabmen v_readCabmen v_acts v_seen v_seed v_bestCleaning v_bestLayers v_bestMany v_underMany v_underLeast v_restMany v_restFirst v_page res) := by
  refine CtV_mk (by decide) (Nat.le_of_ble_eq_true rfl) ?_
  intro p e s m args below meth c A Q hC hA hP hD RET ls hl
  have hC : Cx p s m args meth c b_PM_begin 2 R_PM D cI cZ := hC
  have hl : lv_has ls 2 [(0, .ref a_p0)] := hl
  obtain ⟨hx, hb, hml, hown, hts, hlk, hKK⟩ := id hC
  have hS : va_S A s.heap s.heap [] := va_S.rf
  have B_2 : ∀  (n : Nat) (x1 : Int32) (v_trial : Nat → Int32) (H : Heap) (locs : List Loc) (ls : Array Slot), va_P D classes (cs_PM_begin cI cZ a_p0 a_page a_trial z_text z_layer z_cabman z_readLayer z_readCabman z_book z_kept z_isKept z_seenCabman z_seenFinger z_seenOff z_seenCame z_value z_shows v_thrown v_textSize v_place v_cabmen v_readCabmen v_acts v_seen v_seed v_bestCleaning v_bestLayers v_bestMany v_underMany v_underLeast v_restMany v_restFirst v_page v_trial) H → va_D A (cs_PM_begin cI cZ a_p0 a_page a_trial z_text z_layer z_cabman z_readLayer z_readCabman z_book z_kept z_isKept z_seenCabman z_seenFinger z_seenOff z_seenCame z_value z_shows v_thrown v_textSize v_place v_cabmen v_readCabmen v_acts v_seen v_seed v_bestCleaning v_bestLayers v_bestMany v_underMany v_underLeast v_restMany v_restFirst v_page v_trial) → va_S A s.heap H locs → lv_has ls 2 [(0, .ref a_p0), (1, .int x1)] → f_PM_begin_2  v_page n x1 v_trial = some res → W p l e (rm_ 0 (40 * 0)) s m args below meth c H locs 0 0 Q (F0 m 2 ls []) := by
    intro  n
    induction n with
    | zero => intro x1 v_trial H locs ls hP hD hS hl hf; exact nomatch hf
    | succ n ih =>
      intro x1 v_trial H locs ls hP hD hS hl hf
      have hf : f_PM_begin_2_b  (f_PM_begin_2  v_page n) v_page x1 v_trial = some res := hf
      generalize f_PM_begin_2  v_page n = back_2 at ih hf
      have K_2 := ih
      unfold f_PM_begin_2_b at hf
      refine lv_iload_n hx hb d_PM_begin_2 rfl (lv_at hl 1 rfl) ?_
      refine lv_bipush (v := 16) hx hb d_PM_begin_3 (by decide) ?_
      refine lv_icmp_ge (tgt := 26) hx hb d_PM_begin_5 (by decide) (fun c1 => ?_) (fun c1 => ?_)
      · have hf := o_pos c1 hf
        have hr := Option.some.inj hf
        exact RET _ _ _ _ _ (congrArg (fun r : (Nat → Int32) => (cs_PM_begin cI cZ a_p0 a_page a_trial z_text z_layer z_cabman z_readLayer z_readCabman z_book z_kept z_isKept z_seenCabman z_seenFinger z_seenOff z_seenCame z_value z_shows v_thrown v_textSize v_place v_cabmen v_readCabmen v_acts v_seen v_seed v_bestCleaning v_bestLayers v_bestMany v_underMany v_underLeast v_restMany v_restFirst v_page r)) hr) hP hD hS d_PM_begin_26
      · have hf := o_neg c1 hf
        refine lv_aload_n hx hb d_PM_begin_8 rfl (lv_at hl 0 rfl) ?_
        refine gf_PM_28 hC hP 0 rfl rfl d_PM_begin_9 ?_
        refine lv_iload_n hx hb d_PM_begin_12 rfl (lv_at hl 1 rfl) ?_
        refine lv_aload_n hx hb d_PM_begin_13 rfl (lv_at hl 0 rfl) ?_
        refine gf_PM_25 hC hP 0 rfl rfl d_PM_begin_14 ?_
        refine lv_iload_n hx hb d_PM_begin_17 rfl (lv_at hl 1 rfl) ?_
        obtain ⟨v2, h3, hf⟩ := o_bind hf
        refine r_iald hC hP 1 rfl h3 d_PM_begin_18 ?_
        obtain ⟨g4, h5, hf⟩ := o_bind hf
        refine r_iast hC hP hD hS 2 rfl h5 d_PM_begin_19 (fun H locs hP hD hS => ?_)
        have hP : va_P D classes (cs_PM_begin cI cZ a_p0 a_page a_trial z_text z_layer z_cabman z_readLayer z_readCabman z_book z_kept z_isKept z_seenCabman z_seenFinger z_seenOff z_seenCame z_value z_shows v_thrown v_textSize v_place v_cabmen v_readCabmen v_acts v_seen v_seed v_bestCleaning v_bestLayers v_bestMany v_underMany v_underLeast v_restMany v_restFirst v_page g4) H := hP
        have hD : va_D A (cs_PM_begin cI cZ a_p0 a_page a_trial z_text z_layer z_cabman z_readLayer z_readCabman z_book z_kept z_isKept z_seenCabman z_seenFinger z_seenOff z_seenCame z_value z_shows v_thrown v_textSize v_place v_cabmen v_readCabmen v_acts v_seen v_seed v_bestCleaning v_bestLayers v_bestMany v_underMany v_underLeast v_restMany v_restFirst v_page g4) := hD
        refine lv_iinc (v := x1 + 1) (lv' := [(1, .int (x1 + 1)), (0, .ref a_p0)]) hx hb d_PM_begin_20 hl (k := 1) rfl (rfl) (by decide) rfl (fun ls hl => ?_)
        refine lv_goto (tgt := 2) hx hb d_PM_begin_23 (by decide) ?_
        exact K_2 (x1 + 1) g4 _ _ _ hP hD hS (lv_sub hl [1, 0] rfl) hf
  unfold f_PM_begin at hf
  have E : ∀ (H : Heap) (locs : List Loc), va_P D classes (cs_PM_begin cI cZ a_p0 a_page a_trial z_text z_layer z_cabman z_readLayer z_readCabman z_book z_kept z_isKept z_seenCabman z_seenFinger z_seenOff z_seenCame z_value z_shows v_thrown v_textSize v_place v_cabmen v_readCabmen v_acts v_seen v_seed v_bestCleaning v_bestLayers v_bestMany v_underMany v_underLeast v_restMany v_restFirst v_page v_trial) H → va_S A s.heap H locs → W p l e (rm_ 0 (40 * 0)) s m args below meth c H locs 0 0 Q (F0 m 0 ls []) := by
    intro H locs hP hS
    refine lv_iconst (v := 0) hx hb d_PM_begin_0 (by decide) ?_
    refine lv_istore_n (lv' := [(1, .int 0), (0, .ref a_p0)]) hx hb d_PM_begin_1 rfl hl (by decide) rfl (fun ls hl => ?_)
    exact B_2 300 0 v_trial _ _ _ hP hD hS (lv_sub hl [1, 0] rfl) hf
  exact E _ _ hP hS
set_option maxHeartbeats 4000000 in
set_option maxRecDepth 100000 in
theorem c_PM_power (l : Launch) (D : va_G) (cI cZ : ClassId) (i0 : Int32) (i1 : Int32) (res : Int32) (hf : f_PM_power i0 i1 = some res) : CtI l y_PM_power b_PM_power 4 (some .int) 0 D cI cZ [.int i0, .int i1] [] res [] := by
  refine CtI_mk (by decide) (Nat.le_of_ble_eq_true rfl) ?_
  intro p e s m args below meth c A Q hC hA hP hD RET ls hl
  have hC : Cx p s m args meth c b_PM_power 4 R_PM D cI cZ := hC
  have hl : lv_has ls 4 [(0, .int i0), (1, .int i1)] := hl
  obtain ⟨hx, hb, hml, hown, hts, hlk, hKK⟩ := id hC
  have hS : va_S A s.heap s.heap [] := va_S.rf
  have B_4 : ∀  (n : Nat) (x0 : Int32) (x1 : Int32) (x2 : Int32) (x3 : Int32) (H : Heap) (locs : List Loc) (ls : Array Slot), va_P D classes [] H → va_D A [] → va_S A s.heap H locs → lv_has ls 4 [(0, .int x0), (1, .int x1), (2, .int x2), (3, .int x3)] → f_PM_power_4   n x0 x1 x2 x3 = some res → W p l e (rm_ 0 (40 * 0)) s m args below meth c H locs 0 0 Q (F0 m 4 ls []) := by
    intro  n
    induction n with
    | zero => intro x0 x1 x2 x3 H locs ls hP hD hS hl hf; exact nomatch hf
    | succ n ih =>
      intro x0 x1 x2 x3 H locs ls hP hD hS hl hf
      have hf : f_PM_power_4_b  (f_PM_power_4   n)  x0 x1 x2 x3 = some res := hf
      generalize f_PM_power_4   n = back_4 at ih hf
      have K_4 := ih
      unfold f_PM_power_4_b at hf
      refine lv_iload_n hx hb d_PM_power_4 rfl (lv_at hl 3 rfl) ?_
      refine lv_iload_n hx hb d_PM_power_5 rfl (lv_at hl 1 rfl) ?_
      refine lv_icmp_ge (tgt := 19) hx hb d_PM_power_6 (by decide) (fun c1 => ?_) (fun c1 => ?_)
      · have hf := o_pos c1 hf
        refine lv_iload_n hx hb d_PM_power_19 rfl (lv_at hl 2 rfl) ?_
        have hr := Option.some.inj hf
        exact RET _ _ _ _ _ _ rfl (congrArg (fun r : Int32 => r) hr) rfl hP hD hS d_PM_power_20
      · have hf := o_neg c1 hf
        refine lv_iload_n hx hb d_PM_power_9 rfl (lv_at hl 2 rfl) ?_
        refine lv_iload_n hx hb d_PM_power_10 rfl (lv_at hl 0 rfl) ?_
        refine lv_imul hx hb d_PM_power_11 ?_
        refine lv_istore_n (lv' := [(2, .int (x2 * x0)), (0, .int x0), (1, .int x1), (3, .int x3)]) hx hb d_PM_power_12 rfl hl (by decide) rfl (fun ls hl => ?_)
        refine lv_iinc (v := x3 + 1) (lv' := [(3, .int (x3 + 1)), (2, .int (x2 * x0)), (0, .int x0), (1, .int x1)]) hx hb d_PM_power_13 hl (k := 3) rfl (rfl) (by decide) rfl (fun ls hl => ?_)
        refine lv_goto (tgt := 4) hx hb d_PM_power_16 (by decide) ?_
        exact K_4 x0 x1 (x2 * x0) (x3 + 1) _ _ _ hP hD hS (lv_sub hl [2, 3, 1, 0] rfl) hf
  unfold f_PM_power at hf
  have E : ∀ (H : Heap) (locs : List Loc), va_P D classes [] H → va_S A s.heap H locs → W p l e (rm_ 0 (40 * 0)) s m args below meth c H locs 0 0 Q (F0 m 0 ls []) := by
    intro H locs hP hS
    refine lv_iconst (v := 1) hx hb d_PM_power_0 (by decide) ?_
    refine lv_istore_n (lv' := [(2, .int 1), (0, .int i0), (1, .int i1)]) hx hb d_PM_power_1 rfl hl (by decide) rfl (fun ls hl => ?_)
    refine lv_iconst (v := 0) hx hb d_PM_power_2 (by decide) ?_
    refine lv_istore_n (lv' := [(3, .int 0), (2, .int 1), (0, .int i0), (1, .int i1)]) hx hb d_PM_power_3 rfl hl (by decide) rfl (fun ls hl => ?_)
    exact B_4 300 i0 i1 1 0 _ _ _ hP hD hS (lv_sub hl [2, 3, 1, 0] rfl) hf
  exact E _ _ hP hS
set_option maxHeartbeats 4000000 in
set_option maxRecDepth 100000 in
theorem c_PM_layCleaning (l : Launch) (D : va_G) (cI cZ : ClassId) (a_p0 a_layer a_page a_shows z_text z_cabman z_readLayer z_readCabman z_trial z_book z_kept z_isKept z_seenCabman z_seenFinger z_seenOff z_seenCame z_value : Nat) (i1 : Int32) (v_thrown : Int32) (v_textSize : Int32) (v_place : Int32) (v_cabmen : Int32) (v_readCabmen : Int32) (v_acts : Int32) (v_seen : Int32) (v_seed : Int64) (v_bestCleaning : Int32) (v_bestLayers : Int32) (v_bestMany : Int32) (v_underMany : Int32) (v_underLeast : Int32) (v_restMany : Int32) (v_restFirst : Int32) (v_layer : Nat → Int32) (v_page : Nat → Int32) (v_shows : Nat → Int32) (res : Int32 × (Nat → Int32)) (hf : f_PM_layCleaning i1 v_layer v_page v_shows = some res) : CtI l y_PM_layCleaning b_PM_layCleaning 5 (some .boolean) 1 D cI cZ [.ref a_p0, .int i1] (cs_PM_layCleaning cI cZ a_p0 a_layer a_page a_shows z_text z_cabman z_readLayer z_readCabman z_trial z_book z_kept z_isKept z_seenCabman z_seenFinger z_seenOff z_seenCame z_value v_thrown v_textSize v_place v_cabmen v_readCabmen v_acts v_seen v_seed v_bestCleaning v_bestLayers v_bestMany v_underMany v_underLeast v_restMany v_restFirst v_layer v_page v_shows) res.1 (cs_PM_layCleaning cI cZ a_p0 a_layer a_page a_shows z_text z_cabman z_readLayer z_readCabman z_trial z_book z_kept z_isKept z_seenCabman z_seenFinger z_seenOff z_seenCame z_value v_thrown v_textSize v_place v_cabmen v_readCabmen v_acts v_seen v_seed v_bestCleaning v_bestLayers v_bestMany v_underMany v_underLeast v_restMany v_restFirst v_layer v_page res.2) := by
  refine CtI_mk (by decide) (Nat.le_of_ble_eq_true rfl) ?_
  intro p e s m args below meth c A Q hC hA hP hD RET ls hl
  have hC : Cx p s m args meth c b_PM_layCleaning 5 R_PM D cI cZ := hC
  have hl : lv_has ls 5 [(0, .ref a_p0), (1, .int i1)] := hl
  obtain ⟨hx, hb, hml, hown, hts, hlk, hKK⟩ := id hC
  have hS : va_S A s.heap s.heap [] := va_S.rf
  have B_96 : ∀ (back_18 : Int32 → Int32 → Int32 → (Nat → Int32) → Option (Int32 × (Nat → Int32))) (K_18 : ∀ (x1 : Int32) (x2 : Int32) (x3 : Int32) (v_shows : Nat → Int32) (H : Heap) (locs : List Loc) (ls : Array Slot), va_P D classes (cs_PM_layCleaning cI cZ a_p0 a_layer a_page a_shows z_text z_cabman z_readLayer z_readCabman z_trial z_book z_kept z_isKept z_seenCabman z_seenFinger z_seenOff z_seenCame z_value v_thrown v_textSize v_place v_cabmen v_readCabmen v_acts v_seen v_seed v_bestCleaning v_bestLayers v_bestMany v_underMany v_underLeast v_restMany v_restFirst v_layer v_page v_shows) H → va_D A (cs_PM_layCleaning cI cZ a_p0 a_layer a_page a_shows z_text z_cabman z_readLayer z_readCabman z_trial z_book z_kept z_isKept z_seenCabman z_seenFinger z_seenOff z_seenCame z_value v_thrown v_textSize v_place v_cabmen v_readCabmen v_acts v_seen v_seed v_bestCleaning v_bestLayers v_bestMany v_underMany v_underLeast v_restMany v_restFirst v_layer v_page v_shows) → va_S A s.heap H locs → lv_has ls 5 [(0, .ref a_p0), (1, .int x1), (2, .int x2), (3, .int x3)] → back_18 x1 x2 x3 v_shows = some res → W p l e (rm_ 1 (40 * 1)) s m args below meth c H locs 0 0 Q (F0 m 18 ls [])) (x1 : Int32) (x2 : Int32) (x3 : Int32) (w1 : Int32) (w2 : Int32) (v_shows : Nat → Int32) (H : Heap) (locs : List Loc) (ls : Array Slot), va_P D classes (cs_PM_layCleaning cI cZ a_p0 a_layer a_page a_shows z_text z_cabman z_readLayer z_readCabman z_trial z_book z_kept z_isKept z_seenCabman z_seenFinger z_seenOff z_seenCame z_value v_thrown v_textSize v_place v_cabmen v_readCabmen v_acts v_seen v_seed v_bestCleaning v_bestLayers v_bestMany v_underMany v_underLeast v_restMany v_restFirst v_layer v_page v_shows) H → va_D A (cs_PM_layCleaning cI cZ a_p0 a_layer a_page a_shows z_text z_cabman z_readLayer z_readCabman z_trial z_book z_kept z_isKept z_seenCabman z_seenFinger z_seenOff z_seenCame z_value v_thrown v_textSize v_place v_cabmen v_readCabmen v_acts v_seen v_seed v_bestCleaning v_bestLayers v_bestMany v_underMany v_underLeast v_restMany v_restFirst v_layer v_page v_shows) → va_S A s.heap H locs → lv_has ls 5 [(0, .ref a_p0), (1, .int x1), (2, .int x2), (3, .int x3)] → f_PM_layCleaning_96 back_18 v_layer v_page x1 x2 x3 w1 w2 v_shows = some res → W p l e (rm_ 1 (40 * 1)) s m args below meth c H locs 0 0 Q (F0 m 96 ls [.int w2, .int w1, .ref a_shows]) := by
    intro back_18 K_18 x1 x2 x3 w1 w2 v_shows H locs ls hP hD hS hl hf
    unfold f_PM_layCleaning_96 at hf
    obtain ⟨g1, h2, hf⟩ := o_bind hf
    refine r_iast hC hP hD hS 3 rfl h2 d_PM_layCleaning_96 (fun H locs hP hD hS => ?_)
    have hP : va_P D classes (cs_PM_layCleaning cI cZ a_p0 a_layer a_page a_shows z_text z_cabman z_readLayer z_readCabman z_trial z_book z_kept z_isKept z_seenCabman z_seenFinger z_seenOff z_seenCame z_value v_thrown v_textSize v_place v_cabmen v_readCabmen v_acts v_seen v_seed v_bestCleaning v_bestLayers v_bestMany v_underMany v_underLeast v_restMany v_restFirst v_layer v_page g1) H := hP
    have hD : va_D A (cs_PM_layCleaning cI cZ a_p0 a_layer a_page a_shows z_text z_cabman z_readLayer z_readCabman z_trial z_book z_kept z_isKept z_seenCabman z_seenFinger z_seenOff z_seenCame z_value v_thrown v_textSize v_place v_cabmen v_readCabmen v_acts v_seen v_seed v_bestCleaning v_bestLayers v_bestMany v_underMany v_underLeast v_restMany v_restFirst v_layer v_page g1) := hD
    refine lv_iinc (v := x3 + 1) (lv' := [(3, .int (x3 + 1)), (0, .ref a_p0), (1, .int x1), (2, .int x2)]) hx hb d_PM_layCleaning_97 hl (k := 3) rfl (rfl) (by decide) rfl (fun ls hl => ?_)
    refine lv_goto (tgt := 18) hx hb d_PM_layCleaning_100 (by decide) ?_
    exact K_18 x1 x2 (x3 + 1) g1 _ _ _ hP hD hS (lv_sub hl [1, 2, 3, 0] rfl) hf
  have B_62 : ∀ (back_18 : Int32 → Int32 → Int32 → (Nat → Int32) → Option (Int32 × (Nat → Int32))) (K_18 : ∀ (x1 : Int32) (x2 : Int32) (x3 : Int32) (v_shows : Nat → Int32) (H : Heap) (locs : List Loc) (ls : Array Slot), va_P D classes (cs_PM_layCleaning cI cZ a_p0 a_layer a_page a_shows z_text z_cabman z_readLayer z_readCabman z_trial z_book z_kept z_isKept z_seenCabman z_seenFinger z_seenOff z_seenCame z_value v_thrown v_textSize v_place v_cabmen v_readCabmen v_acts v_seen v_seed v_bestCleaning v_bestLayers v_bestMany v_underMany v_underLeast v_restMany v_restFirst v_layer v_page v_shows) H → va_D A (cs_PM_layCleaning cI cZ a_p0 a_layer a_page a_shows z_text z_cabman z_readLayer z_readCabman z_trial z_book z_kept z_isKept z_seenCabman z_seenFinger z_seenOff z_seenCame z_value v_thrown v_textSize v_place v_cabmen v_readCabmen v_acts v_seen v_seed v_bestCleaning v_bestLayers v_bestMany v_underMany v_underLeast v_restMany v_restFirst v_layer v_page v_shows) → va_S A s.heap H locs → lv_has ls 5 [(0, .ref a_p0), (1, .int x1), (2, .int x2), (3, .int x3)] → back_18 x1 x2 x3 v_shows = some res → W p l e (rm_ 1 (40 * 1)) s m args below meth c H locs 0 0 Q (F0 m 18 ls [])) (x1 : Int32) (x3 : Int32) (x4 : Int32) (w0 : Int32) (v_shows : Nat → Int32) (H : Heap) (locs : List Loc) (ls : Array Slot), va_P D classes (cs_PM_layCleaning cI cZ a_p0 a_layer a_page a_shows z_text z_cabman z_readLayer z_readCabman z_trial z_book z_kept z_isKept z_seenCabman z_seenFinger z_seenOff z_seenCame z_value v_thrown v_textSize v_place v_cabmen v_readCabmen v_acts v_seen v_seed v_bestCleaning v_bestLayers v_bestMany v_underMany v_underLeast v_restMany v_restFirst v_layer v_page v_shows) H → va_D A (cs_PM_layCleaning cI cZ a_p0 a_layer a_page a_shows z_text z_cabman z_readLayer z_readCabman z_trial z_book z_kept z_isKept z_seenCabman z_seenFinger z_seenOff z_seenCame z_value v_thrown v_textSize v_place v_cabmen v_readCabmen v_acts v_seen v_seed v_bestCleaning v_bestLayers v_bestMany v_underMany v_underLeast v_restMany v_restFirst v_layer v_page v_shows) → va_S A s.heap H locs → lv_has ls 5 [(0, .ref a_p0), (1, .int x1), (3, .int x3), (4, .int x4)] → f_PM_layCleaning_62 back_18 v_layer v_page x1 x3 x4 w0 v_shows = some res → W p l e (rm_ 1 (40 * 1)) s m args below meth c H locs 0 0 Q (F0 m 62 ls [.int w0]) := by
    intro back_18 K_18 x1 x3 x4 w0 v_shows H locs ls hP hD hS hl hf
    unfold f_PM_layCleaning_62 at hf
    refine lv_istore_n (lv' := [(2, .int w0), (0, .ref a_p0), (1, .int x1), (3, .int x3), (4, .int x4)]) hx hb d_PM_layCleaning_62 rfl hl (by decide) rfl (fun ls hl => ?_)
    refine lv_aload_n hx hb d_PM_layCleaning_63 rfl (lv_at hl 1 rfl) ?_
    refine gf_PM_56 hC hP 0 rfl rfl d_PM_layCleaning_64 ?_
    refine lv_iload_n hx hb d_PM_layCleaning_67 rfl (lv_at hl 3 rfl) ?_
    refine lv_iload_n hx hb d_PM_layCleaning_68 rfl (lv_at hl 0 rfl) ?_
    refine lv_if_eq (tgt := 95) hx hb d_PM_layCleaning_69 (by decide) (fun c1 => ?_) (fun c1 => ?_)
    · have hf := o_pos c1 hf
      refine lv_iconst (v := 0) hx hb d_PM_layCleaning_95 (by decide) ?_
      exact B_96 back_18 K_18 x1 w0 x3 x3 0 v_shows _ _ _ hP hD hS (lv_sub hl [1, 2, 0, 3] rfl) hf
    · have hf := o_neg c1 hf
      refine lv_aload_n hx hb d_PM_layCleaning_72 rfl (lv_at hl 1 rfl) ?_
      refine gf_PM_13 hC hP 0 rfl rfl d_PM_layCleaning_73 ?_
      refine lv_iconst (v := 3) hx hb d_PM_layCleaning_76 (by decide) ?_
      refine lv_iload_n hx hb d_PM_layCleaning_77 rfl (lv_at hl 3 rfl) ?_
      refine lv_imul hx hb d_PM_layCleaning_78 ?_
      refine lv_aload_n hx hb d_PM_layCleaning_79 rfl (lv_at hl 1 rfl) ?_
      refine gf_PM_25 hC hP 0 rfl rfl d_PM_layCleaning_80 ?_
      refine lv_iconst (v := 0) hx hb d_PM_layCleaning_83 (by decide) ?_
      refine lv_iload_n hx hb d_PM_layCleaning_84 rfl (lv_at hl 3 rfl) ?_
      refine lv_iadd hx hb d_PM_layCleaning_85 ?_
      obtain ⟨v2, h3, hf⟩ := o_bind hf
      refine r_iald hC hP 2 rfl h3 d_PM_layCleaning_86 ?_
      refine lv_iadd hx hb d_PM_layCleaning_87 ?_
      refine lv_iload hx hb d_PM_layCleaning_88 (lv_at hl 4 rfl) ?_
      refine lv_iadd hx hb d_PM_layCleaning_90 ?_
      obtain ⟨v4, h5, hf⟩ := o_bind hf
      refine r_iald hC hP 1 rfl h5 d_PM_layCleaning_91 ?_
      refine lv_goto (tgt := 96) hx hb d_PM_layCleaning_92 (by decide) ?_
      exact B_96 back_18 K_18 x1 w0 x3 x3 v4 v_shows _ _ _ hP hD hS (lv_sub hl [1, 2, 0, 3] rfl) hf
  have B_61 : ∀ (back_18 : Int32 → Int32 → Int32 → (Nat → Int32) → Option (Int32 × (Nat → Int32))) (K_18 : ∀ (x1 : Int32) (x2 : Int32) (x3 : Int32) (v_shows : Nat → Int32) (H : Heap) (locs : List Loc) (ls : Array Slot), va_P D classes (cs_PM_layCleaning cI cZ a_p0 a_layer a_page a_shows z_text z_cabman z_readLayer z_readCabman z_trial z_book z_kept z_isKept z_seenCabman z_seenFinger z_seenOff z_seenCame z_value v_thrown v_textSize v_place v_cabmen v_readCabmen v_acts v_seen v_seed v_bestCleaning v_bestLayers v_bestMany v_underMany v_underLeast v_restMany v_restFirst v_layer v_page v_shows) H → va_D A (cs_PM_layCleaning cI cZ a_p0 a_layer a_page a_shows z_text z_cabman z_readLayer z_readCabman z_trial z_book z_kept z_isKept z_seenCabman z_seenFinger z_seenOff z_seenCame z_value v_thrown v_textSize v_place v_cabmen v_readCabmen v_acts v_seen v_seed v_bestCleaning v_bestLayers v_bestMany v_underMany v_underLeast v_restMany v_restFirst v_layer v_page v_shows) → va_S A s.heap H locs → lv_has ls 5 [(0, .ref a_p0), (1, .int x1), (2, .int x2), (3, .int x3)] → back_18 x1 x2 x3 v_shows = some res → W p l e (rm_ 1 (40 * 1)) s m args below meth c H locs 0 0 Q (F0 m 18 ls [])) (x1 : Int32) (x3 : Int32) (x4 : Int32) (v_shows : Nat → Int32) (H : Heap) (locs : List Loc) (ls : Array Slot), va_P D classes (cs_PM_layCleaning cI cZ a_p0 a_layer a_page a_shows z_text z_cabman z_readLayer z_readCabman z_trial z_book z_kept z_isKept z_seenCabman z_seenFinger z_seenOff z_seenCame z_value v_thrown v_textSize v_place v_cabmen v_readCabmen v_acts v_seen v_seed v_bestCleaning v_bestLayers v_bestMany v_underMany v_underLeast v_restMany v_restFirst v_layer v_page v_shows) H → va_D A (cs_PM_layCleaning cI cZ a_p0 a_layer a_page a_shows z_text z_cabman z_readLayer z_readCabman z_trial z_book z_kept z_isKept z_seenCabman z_seenFinger z_seenOff z_seenCame z_value v_thrown v_textSize v_place v_cabmen v_readCabmen v_acts v_seen v_seed v_bestCleaning v_bestLayers v_bestMany v_underMany v_underLeast v_restMany v_restFirst v_layer v_page v_shows) → va_S A s.heap H locs → lv_has ls 5 [(0, .ref a_p0), (1, .int x1), (3, .int x3), (4, .int x4)] → f_PM_layCleaning_61 back_18 v_layer v_page x1 x3 x4 v_shows = some res → W p l e (rm_ 1 (40 * 1)) s m args below meth c H locs 0 0 Q (F0 m 61 ls []) := by
    intro back_18 K_18 x1 x3 x4 v_shows H locs ls hP hD hS hl hf
    unfold f_PM_layCleaning_61 at hf
    refine lv_iconst (v := 0) hx hb d_PM_layCleaning_61 (by decide) ?_
    exact B_62 back_18 K_18 x1 x3 x4 0 v_shows _ _ _ hP hD hS (lv_sub hl [0, 1, 2, 3] rfl) hf
  have B_18 : ∀  (n : Nat) (x1 : Int32) (x2 : Int32) (x3 : Int32) (v_shows : Nat → Int32) (H : Heap) (locs : List Loc) (ls : Array Slot), va_P D classes (cs_PM_layCleaning cI cZ a_p0 a_layer a_page a_shows z_text z_cabman z_readLayer z_readCabman z_trial z_book z_kept z_isKept z_seenCabman z_seenFinger z_seenOff z_seenCame z_value v_thrown v_textSize v_place v_cabmen v_readCabmen v_acts v_seen v_seed v_bestCleaning v_bestLayers v_bestMany v_underMany v_underLeast v_restMany v_restFirst v_layer v_page v_shows) H → va_D A (cs_PM_layCleaning cI cZ a_p0 a_layer a_page a_shows z_text z_cabman z_readLayer z_readCabman z_trial z_book z_kept z_isKept z_seenCabman z_seenFinger z_seenOff z_seenCame z_value v_thrown v_textSize v_place v_cabmen v_readCabmen v_acts v_seen v_seed v_bestCleaning v_bestLayers v_bestMany v_underMany v_underLeast v_restMany v_restFirst v_layer v_page v_shows) → va_S A s.heap H locs → lv_has ls 5 [(0, .ref a_p0), (1, .int x1), (2, .int x2), (3, .int x3)] → f_PM_layCleaning_18  v_layer v_page n x1 x2 x3 v_shows = some res → W p l e (rm_ 1 (40 * 1)) s m args below meth c H locs 0 0 Q (F0 m 18 ls []) := by
    intro  n
    induction n with
    | zero => intro x1 x2 x3 v_shows H locs ls hP hD hS hl hf; exact nomatch hf
    | succ n ih =>
      intro x1 x2 x3 v_shows H locs ls hP hD hS hl hf
      have hf : f_PM_layCleaning_18_b  (f_PM_layCleaning_18  v_layer v_page n) v_layer v_page x1 x2 x3 v_shows = some res := hf
      generalize f_PM_layCleaning_18  v_layer v_page n = back_18 at ih hf
      have K_18 := ih
      unfold f_PM_layCleaning_18_b at hf
      refine lv_iload_n hx hb d_PM_layCleaning_18 rfl (lv_at hl 3 rfl) ?_
      refine lv_iconst (v := 4) hx hb d_PM_layCleaning_19 (by decide) ?_
      refine lv_icmp_ge (tgt := 103) hx hb d_PM_layCleaning_20 (by decide) (fun c1 => ?_) (fun c1 => ?_)
      · have hf := o_pos c1 hf
        refine lv_iload_n hx hb d_PM_layCleaning_103 rfl (lv_at hl 2 rfl) ?_
        obtain ⟨h2, hf⟩ := o_ite hf
        have hr := Option.some.inj hf
        exact RET _ _ _ _ _ _ (narB h2) (congrArg (fun r : Int32 × (Nat → Int32) => r.1) hr) (congrArg (fun r : Int32 × (Nat → Int32) => (cs_PM_layCleaning cI cZ a_p0 a_layer a_page a_shows z_text z_cabman z_readLayer z_readCabman z_trial z_book z_kept z_isKept z_seenCabman z_seenFinger z_seenOff z_seenCame z_value v_thrown v_textSize v_place v_cabmen v_readCabmen v_acts v_seen v_seed v_bestCleaning v_bestLayers v_bestMany v_underMany v_underLeast v_restMany v_restFirst v_layer v_page r.2)) hr) hP hD hS d_PM_layCleaning_104
      · have hf := o_neg c1 hf
        refine lv_iload_n hx hb d_PM_layCleaning_23 rfl (lv_at hl 1 rfl) ?_
        refine lv_bipush (v := 10) hx hb d_PM_layCleaning_24 (by decide) ?_
        refine lv_iconst (v := 3) hx hb d_PM_layCleaning_26 (by decide) ?_
        refine lv_iload_n hx hb d_PM_layCleaning_27 rfl (lv_at hl 3 rfl) ?_
        refine lv_isub hx hb d_PM_layCleaning_28 ?_
        obtain ⟨r3, h4, hf⟩ := o_bind hf
        refine cSi0 (rest := [.int x1]) (c_PM_power l D cI cZ 10 (3 - x3) r3 h4) hC hA hP hD hS hl.1 cw_PM_150 ⟨Nat.le_of_ble_eq_true rfl, Nat.le_of_ble_eq_true rfl⟩ rfl rfl (Nat.le_of_ble_eq_true rfl) d_PM_layCleaning_29 ⟨Nat.zero_le _, Nat.zero_le _⟩ (fun H locs hP hS => ?_)
        obtain ⟨h5, hf⟩ := o_itn hf
        refine lv_idiv hx hb d_PM_layCleaning_32 h5 ?_
        refine lv_bipush (v := 10) hx hb d_PM_layCleaning_33 (by decide) ?_
        refine lv_irem hx hb d_PM_layCleaning_35 (by decide) ?_
        refine lv_istore (lv' := [(4, .int (rmI (x1 / r3) 10)), (0, .ref a_p0), (1, .int x1), (2, .int x2), (3, .int x3)]) hx hb d_PM_layCleaning_36 hl (by decide) rfl (fun ls hl => ?_)
        refine lv_iload_n hx hb d_PM_layCleaning_38 rfl (lv_at hl 3 rfl) ?_
        refine lv_if_eq (tgt := 61) hx hb d_PM_layCleaning_39 (by decide) (fun c6 => ?_) (fun c6 => ?_)
        · have hf := o_pos c6 hf
          exact B_61 back_18 K_18 x1 x3 (rmI (x1 / r3) 10) v_shows _ _ _ hP hD hS (lv_sub hl [1, 2, 4, 0] rfl) hf
        · have hf := o_neg c6 hf
          refine lv_iload hx hb d_PM_layCleaning_42 (lv_at hl 0 rfl) ?_
          refine lv_aload_n hx hb d_PM_layCleaning_44 rfl (lv_at hl 1 rfl) ?_
          refine gf_PM_25 hC hP 0 rfl rfl d_PM_layCleaning_45 ?_
          refine lv_iconst (v := 0) hx hb d_PM_layCleaning_48 (by decide) ?_
          refine lv_iload_n hx hb d_PM_layCleaning_49 rfl (lv_at hl 4 rfl) ?_
          refine lv_iadd hx hb d_PM_layCleaning_50 ?_
          obtain ⟨v7, h8, hf⟩ := o_bind hf
          refine r_iald hC hP 2 rfl h8 d_PM_layCleaning_51 ?_
          refine lv_iadd hx hb d_PM_layCleaning_52 ?_
          refine lv_iconst (v := 3) hx hb d_PM_layCleaning_53 (by decide) ?_
          refine lv_icmp_ge (tgt := 61) hx hb d_PM_layCleaning_54 (by decide) (fun c9 => ?_) (fun c9 => ?_)
          · have hf := o_pos c9 hf
            exact B_61 back_18 K_18 x1 x3 (rmI (x1 / r3) 10) v_shows _ _ _ hP hD hS (lv_sub hl [1, 2, 4, 0] rfl) hf
          · have hf := o_neg c9 hf
            refine lv_iconst (v := 1) hx hb d_PM_layCleaning_57 (by decide) ?_
            refine lv_goto (tgt := 62) hx hb d_PM_layCleaning_58 (by decide) ?_
            exact B_62 back_18 K_18 x1 x3 (rmI (x1 / r3) 10) 1 v_shows _ _ _ hP hD hS (lv_sub hl [1, 2, 4, 0] rfl) hf
  unfold f_PM_layCleaning at hf
  have E : ∀ (H : Heap) (locs : List Loc), va_P D classes (cs_PM_layCleaning cI cZ a_p0 a_layer a_page a_shows z_text z_cabman z_readLayer z_readCabman z_trial z_book z_kept z_isKept z_seenCabman z_seenFinger z_seenOff z_seenCame z_value v_thrown v_textSize v_place v_cabmen v_readCabmen v_acts v_seen v_seed v_bestCleaning v_bestLayers v_bestMany v_underMany v_underLeast v_restMany v_restFirst v_layer v_page v_shows) H → va_S A s.heap H locs → W p l e (rm_ 1 (40 * 1)) s m args below meth c H locs 0 0 Q (F0 m 0 ls []) := by
    intro H locs hP hS
    refine lv_iload_n hx hb d_PM_layCleaning_0 rfl (lv_at hl 1 rfl) ?_
    refine lv_i2l (v := Int32.toInt64 i1) hx hb d_PM_layCleaning_1 rfl ?_
    refine lv_lconst (v := 0) hx hb d_PM_layCleaning_2 (by decide) ?_
    refine lv_ldc2 (v := 2222) hx hb hown (hts _ g723) d_PM_layCleaning_3 ?_
    obtain ⟨r1, h2, hf⟩ := o_bind hf
    refine cSi0 (rest := []) (c_PM_in l D cI cZ (Int32.toInt64 i1) 0 2222 r1 h2) hC hA hP hD hS hl.1 cw_PM_66 ⟨Nat.le_of_ble_eq_true rfl, Nat.le_of_ble_eq_true rfl⟩ rfl rfl (Nat.le_of_ble_eq_true rfl) d_PM_layCleaning_6 ⟨Nat.zero_le _, Nat.zero_le _⟩ (fun H locs hP hS => ?_)
    refine lv_if_ne (tgt := 14) hx hb d_PM_layCleaning_9 (by decide) (fun c3 => ?_) (fun c3 => ?_)
    · have hf := o_neg c3 hf
      refine lv_iconst (v := 1) hx hb d_PM_layCleaning_14 (by decide) ?_
      refine lv_istore_n (lv' := [(2, .int 1), (0, .ref a_p0), (1, .int i1)]) hx hb d_PM_layCleaning_15 rfl hl (by decide) rfl (fun ls hl => ?_)
      refine lv_iconst (v := 0) hx hb d_PM_layCleaning_16 (by decide) ?_
      refine lv_istore_n (lv' := [(3, .int 0), (2, .int 1), (0, .ref a_p0), (1, .int i1)]) hx hb d_PM_layCleaning_17 rfl hl (by decide) rfl (fun ls hl => ?_)
      exact B_18 300 i1 1 0 v_shows _ _ _ hP hD hS (lv_sub hl [2, 3, 1, 0] rfl) hf
    · have hf := o_pos c3 hf
      refine lv_iconst (v := 0) hx hb d_PM_layCleaning_12 (by decide) ?_
      have hr := Option.some.inj hf
      exact RET _ _ _ _ _ _ rfl (congrArg (fun r : Int32 × (Nat → Int32) => r.1) hr) (congrArg (fun r : Int32 × (Nat → Int32) => (cs_PM_layCleaning cI cZ a_p0 a_layer a_page a_shows z_text z_cabman z_readLayer z_readCabman z_trial z_book z_kept z_isKept z_seenCabman z_seenFinger z_seenOff z_seenCame z_value v_thrown v_textSize v_place v_cabmen v_readCabmen v_acts v_seen v_seed v_bestCleaning v_bestLayers v_bestMany v_underMany v_underLeast v_restMany v_restFirst v_layer v_page r.2)) hr) hP hD hS d_PM_layCleaning_13
  exact E _ _ hP hS
set_option maxHeartbeats 4000000 in
set_option maxRecDepth 100000 in
theorem c_PM_call (l : Launch) (D : va_G) (cI cZ : ClassId) (a_p0 a_layer a_cabman a_page a_shows z_text z_readLayer z_readCabman z_trial z_book z_kept z_isKept z_seenCabman z_seenFinger z_seenOff z_seenCame z_value : Nat) (i1 : Int32) (v_thrown : Int32) (v_textSize : Int32) (v_place : Int32) (v_cabmen : Int32) (v_readCabmen : Int32) (v_acts : Int32) (v_seen : Int32) (v_seed : Int64) (v_bestCleaning : Int32) (v_bestLayers : Int32) (v_bestMany : Int32) (v_underMany : Int32) (v_underLeast : Int32) (v_restMany : Int32) (v_restFirst : Int32) (v_layer : Nat → Int32) (v_cabman : Nat → Int32) (v_page : Nat → Int32) (v_shows : Nat → Int32) (res : Int32 × Int32 × (Nat → Int32)) (hf : f_PM_call i1 v_cabmen v_layer v_cabman v_page v_thrown v_shows = some res) : CtI l y_PM_call b_PM_call 2 (some .int) 3 D cI cZ [.ref a_p0, .int i1] (cs_PM_call cI cZ a_p0 a_layer a_cabman a_page a_shows z_text z_readLayer z_readCabman z_trial z_book z_kept z_isKept z_seenCabman z_seenFinger z_seenOff z_seenCame z_value v_thrown v_textSize v_place v_cabmen v_readCabmen v_acts v_seen v_seed v_bestCleaning v_bestLayers v_bestMany v_underMany v_underLeast v_restMany v_restFirst v_layer v_cabman v_page v_shows) res.1 (cs_PM_call cI cZ a_p0 a_layer a_cabman a_page a_shows z_text z_readLayer z_readCabman z_trial z_book z_kept z_isKept z_seenCabman z_seenFinger z_seenOff z_seenCame z_value res.2.1 v_textSize v_place v_cabmen v_readCabmen v_acts v_seen v_seed v_bestCleaning v_bestLayers v_bestMany v_underMany v_underLeast v_restMany v_restFirst v_layer v_cabman v_page res.2.2) := by
  refine CtI_mk (by decide) (Nat.le_of_ble_eq_true rfl) ?_
  intro p e s m args below meth c A Q hC hA hP hD RET ls hl
  have hC : Cx p s m args meth c b_PM_call 2 R_PM D cI cZ := hC
  have hl : lv_has ls 2 [(0, .ref a_p0), (1, .int i1)] := hl
  obtain ⟨hx, hb, hml, hown, hts, hlk, hKK⟩ := id hC
  have hS : va_S A s.heap s.heap [] := va_S.rf
  have B_24 : ∀  (w0 : Int32) (v_thrown : Int32) (v_shows : Nat → Int32) (H : Heap) (locs : List Loc) (ls : Array Slot), va_P D classes (cs_PM_call cI cZ a_p0 a_layer a_cabman a_page a_shows z_text z_readLayer z_readCabman z_trial z_book z_kept z_isKept z_seenCabman z_seenFinger z_seenOff z_seenCame z_value v_thrown v_textSize v_place v_cabmen v_readCabmen v_acts v_seen v_seed v_bestCleaning v_bestLayers v_bestMany v_underMany v_underLeast v_restMany v_restFirst v_layer v_cabman v_page v_shows) H → va_D A (cs_PM_call cI cZ a_p0 a_layer a_cabman a_page a_shows z_text z_readLayer z_readCabman z_trial z_book z_kept z_isKept z_seenCabman z_seenFinger z_seenOff z_seenCame z_value v_thrown v_textSize v_place v_cabmen v_readCabmen v_acts v_seen v_seed v_bestCleaning v_bestLayers v_bestMany v_underMany v_underLeast v_restMany v_restFirst v_layer v_cabman v_page v_shows) → va_S A s.heap H locs → lv_has ls 2 [] → f_PM_call_24  v_cabmen v_layer v_cabman v_page w0 v_thrown v_shows = some res → W p l e (rm_ 3 (40 * 3)) s m args below meth c H locs 0 0 Q (F0 m 24 ls [.int w0]) := by
    intro  w0 v_thrown v_shows H locs ls hP hD hS hl hf
    unfold f_PM_call_24 at hf
    have hr := Option.some.inj hf
    exact RET _ _ _ _ _ _ rfl (congrArg (fun r : Int32 × Int32 × (Nat → Int32) => r.1) hr) (congrArg (fun r : Int32 × Int32 × (Nat → Int32) => (cs_PM_call cI cZ a_p0 a_layer a_cabman a_page a_shows z_text z_readLayer z_readCabman z_trial z_book z_kept z_isKept z_seenCabman z_seenFinger z_seenOff z_seenCame z_value r.2.1 v_textSize v_place v_cabmen v_readCabmen v_acts v_seen v_seed v_bestCleaning v_bestLayers v_bestMany v_underMany v_underLeast v_restMany v_restFirst v_layer v_cabman v_page r.2.2)) hr) hP hD hS d_PM_call_24
  unfold f_PM_call at hf
  have E : ∀ (H : Heap) (locs : List Loc), va_P D classes (cs_PM_call cI cZ a_p0 a_layer a_cabman a_page a_shows z_text z_readLayer z_readCabman z_trial z_book z_kept z_isKept z_seenCabman z_seenFinger z_seenOff z_seenCame z_value v_thrown v_textSize v_place v_cabmen v_readCabmen v_acts v_seen v_seed v_bestCleaning v_bestLayers v_bestMany v_underMany v_underLeast v_restMany v_restFirst v_layer v_cabman v_page v_shows) H → va_S A s.heap H locs → W p l e (rm_ 3 (40 * 3)) s m args below meth c H locs 0 0 Q (F0 m 0 ls []) := by
    intro H locs hP hS
    refine lv_aload_n hx hb d_PM_call_0 rfl (lv_at hl 0 rfl) ?_
    refine lv_iconst (v := 0) hx hb d_PM_call_1 (by decide) ?_
    refine pf_PM_59 hC hP hD hS 0 rfl (Nat.le_of_ble_eq_true rfl) d_PM_call_2 (fun H locs hP hD hS => ?_)
    have hP : va_P D classes (cs_PM_call cI cZ a_p0 a_layer a_cabman a_page a_shows z_text z_readLayer z_readCabman z_trial z_book z_kept z_isKept z_seenCabman z_seenFinger z_seenOff z_seenCame z_value 0 v_textSize v_place v_cabmen v_readCabmen v_acts v_seen v_seed v_bestCleaning v_bestLayers v_bestMany v_underMany v_underLeast v_restMany v_restFirst v_layer v_cabman v_page v_shows) H := hP
    have hD : va_D A (cs_PM_call cI cZ a_p0 a_layer a_cabman a_page a_shows z_text z_readLayer z_readCabman z_trial z_book z_kept z_isKept z_seenCabman z_seenFinger z_seenOff z_seenCame z_value 0 v_textSize v_place v_cabmen v_readCabmen v_acts v_seen v_seed v_bestCleaning v_bestLayers v_bestMany v_underMany v_underLeast v_restMany v_restFirst v_layer v_cabman v_page v_shows) := hD
    refine lv_aload_n hx hb d_PM_call_5 rfl (lv_at hl 0 rfl) ?_
    refine lv_iload_n hx hb d_PM_call_6 rfl (lv_at hl 1 rfl) ?_
    obtain ⟨r1, h2, hf⟩ := o_bind hf
    refine cVi (rest := []) (wr := [(a_cabman, .inl (cI, 30, .inl v_cabman))]) (wn := (cs_PM_call cI cZ a_p0 a_layer a_cabman a_page a_shows z_text z_readLayer z_readCabman z_trial z_book z_kept z_isKept z_seenCabman z_seenFinger z_seenOff z_seenCame z_value 0 v_textSize v_place v_cabmen v_readCabmen v_acts v_seen v_seed v_bestCleaning v_bestLayers v_bestMany v_underMany v_underLeast v_restMany v_restFirst v_layer v_cabman v_page r1.2)) (c_PM_layCleaning l D cI cZ a_p0 a_layer a_page a_shows z_text a_cabman z_readLayer z_readCabman z_trial z_book z_kept z_isKept z_seenCabman z_seenFinger z_seenOff z_seenCame z_value i1 0 v_textSize v_place v_cabmen v_readCabmen v_acts v_seen v_seed v_bestCleaning v_bestLayers v_bestMany v_underMany v_underLeast v_restMany v_restFirst v_layer v_page v_shows r1 h2) hC hA hP hD hS hl.1 cw_PM_153 0 rfl rfl rfl ⟨Nat.le_of_ble_eq_true rfl, Nat.le_of_ble_eq_true rfl⟩ rfl rfl (Nat.le_of_ble_eq_true rfl) d_PM_call_7 ⟨Nat.zero_le _, Nat.zero_le _⟩ [0, 1, 3, 4] [2] [1, 2, 0, 3, 4] (by decide) (Cut_mk rfl rfl (by decide) (by decide) (by decide) rfl) (fun H locs hP hD hS => ?_)
    refine lv_if_eq (tgt := 22) hx hb d_PM_call_10 (by decide) (fun c3 => ?_) (fun c3 => ?_)
    · have hf := o_pos c3 hf
      refine lv_bipush (v := (-2)) hx hb d_PM_call_22 (by decide) ?_
      exact B_24 ((-2)) 0 r1.2 _ _ _ hP hD hS (lv_sub hl [] rfl) hf
    · have hf := o_neg c3 hf
      refine lv_aload_n hx hb d_PM_call_13 rfl (lv_at hl 0 rfl) ?_
      refine lv_bipush (v := 15) hx hb d_PM_call_14 (by decide) ?_
      obtain ⟨r4, h5, hf⟩ := o_bind hf
      refine cVi (rest := []) (wr := [(a_layer, .inl (cI, 12, .inl v_layer)), (a_page, .inl (cI, 16, .inl v_page))]) (wn := (cs_PM_call cI cZ a_p0 a_layer a_cabman a_page a_shows z_text z_readLayer z_readCabman z_trial z_book z_kept z_isKept z_seenCabman z_seenFinger z_seenOff z_seenCame z_value 0 v_textSize v_place v_cabmen v_readCabmen v_acts v_seen v_seed v_bestCleaning v_bestLayers v_bestMany v_underMany v_underLeast v_restMany v_restFirst v_layer v_cabman v_page r1.2)) (c_PM_calledOf l D cI cZ a_p0 a_cabman a_shows z_text a_layer z_readLayer z_readCabman a_page z_trial z_book z_kept z_isKept z_seenCabman z_seenFinger z_seenOff z_seenCame z_value 15 0 v_textSize v_place v_cabmen v_readCabmen v_acts v_seen v_seed v_bestCleaning v_bestLayers v_bestMany v_underMany v_underLeast v_restMany v_restFirst v_cabman r1.2 r4 h5) hC hA hP hD hS hl.1 cw_PM_120 0 rfl rfl rfl ⟨Nat.le_of_ble_eq_true rfl, Nat.le_of_ble_eq_true rfl⟩ rfl rfl (Nat.le_of_ble_eq_true rfl) d_PM_call_16 ⟨Nat.zero_le _, Nat.zero_le _⟩ [0, 2, 4] [1, 3] [2, 0, 3, 1, 4] (by decide) (Cut_mk rfl rfl (by decide) (by decide) (by decide) rfl) (fun H locs hP hD hS => ?_)
      refine lv_goto (tgt := 24) hx hb d_PM_call_19 (by decide) ?_
      exact B_24 r4 0 r1.2 _ _ _ hP hD hS (lv_sub hl [] rfl) hf
  exact E _ _ hP hS
set_option maxHeartbeats 4000000 in
set_option maxRecDepth 100000 in
theorem c_PM_figuresOf (l : Launch) (D : va_G) (cI cZ : ClassId) (i0 : Int32) (res : Int32) (hf : f_PM_figuresOf i0 = some res) : CtI l y_PM_figuresOf b_PM_figuresOf 1 (some .int) 0 D cI cZ [.int i0] [] res [] := by
  refine CtI_mk (by decide) (Nat.le_of_ble_eq_true rfl) ?_
  intro p e s m args below meth c A Q hC hA hP hD RET ls hl
  have hC : Cx p s m args meth c b_PM_figuresOf 1 R_PM D cI cZ := hC
  have hl : lv_has ls 1 [(0, .int i0)] := hl
  obtain ⟨hx, hb, hml, hown, hts, hlk, hKK⟩ := id hC
  have hS : va_S A s.heap s.heap [] := va_S.rf
  unfold f_PM_figuresOf at hf
  have E : ∀ (H : Heap) (locs : List Loc), va_P D classes [] H → va_S A s.heap H locs → W p l e (rm_ 0 (40 * 0)) s m args below meth c H locs 0 0 Q (F0 m 0 ls []) := by
    intro H locs hP hS
    refine lv_sipush (v := 1000) hx hb d_PM_figuresOf_0 (by decide) ?_
    refine lv_iload_n hx hb d_PM_figuresOf_3 rfl (lv_at hl 0 rfl) ?_
    refine lv_bipush (v := 27) hx hb d_PM_figuresOf_4 (by decide) ?_
    refine lv_idiv hx hb d_PM_figuresOf_6 (by decide) ?_
    refine lv_imul hx hb d_PM_figuresOf_7 ?_
    refine lv_bipush (v := 100) hx hb d_PM_figuresOf_8 (by decide) ?_
    refine lv_iload_n hx hb d_PM_figuresOf_10 rfl (lv_at hl 0 rfl) ?_
    refine lv_bipush (v := 9) hx hb d_PM_figuresOf_11 (by decide) ?_
    refine lv_idiv hx hb d_PM_figuresOf_13 (by decide) ?_
    refine lv_iconst (v := 3) hx hb d_PM_figuresOf_14 (by decide) ?_
    refine lv_irem hx hb d_PM_figuresOf_15 (by decide) ?_
    refine lv_imul hx hb d_PM_figuresOf_16 ?_
    refine lv_iadd hx hb d_PM_figuresOf_17 ?_
    refine lv_bipush (v := 10) hx hb d_PM_figuresOf_18 (by decide) ?_
    refine lv_iload_n hx hb d_PM_figuresOf_20 rfl (lv_at hl 0 rfl) ?_
    refine lv_iconst (v := 3) hx hb d_PM_figuresOf_21 (by decide) ?_
    refine lv_idiv hx hb d_PM_figuresOf_22 (by decide) ?_
    refine lv_iconst (v := 3) hx hb d_PM_figuresOf_23 (by decide) ?_
    refine lv_irem hx hb d_PM_figuresOf_24 (by decide) ?_
    refine lv_imul hx hb d_PM_figuresOf_25 ?_
    refine lv_iadd hx hb d_PM_figuresOf_26 ?_
    refine lv_iload_n hx hb d_PM_figuresOf_27 rfl (lv_at hl 0 rfl) ?_
    refine lv_iconst (v := 3) hx hb d_PM_figuresOf_28 (by decide) ?_
    refine lv_irem hx hb d_PM_figuresOf_29 (by decide) ?_
    refine lv_iadd hx hb d_PM_figuresOf_30 ?_
    have hr := Option.some.inj hf
    exact RET _ _ _ _ _ _ rfl (congrArg (fun r : Int32 => r) hr) rfl hP hD hS d_PM_figuresOf_31
  exact E _ _ hP hS
set_option maxHeartbeats 4000000 in
set_option maxRecDepth 100000 in
theorem c_PM_layersOf (l : Launch) (D : va_G) (cI cZ : ClassId) (i0 : Int32) (res : Int32) (hf : f_PM_layersOf i0 = some res) : CtI l y_PM_layersOf b_PM_layersOf 1 (some .int) 0 D cI cZ [.int i0] [] res [] := by
  refine CtI_mk (by decide) (Nat.le_of_ble_eq_true rfl) ?_
  intro p e s m args below meth c A Q hC hA hP hD RET ls hl
  have hC : Cx p s m args meth c b_PM_layersOf 1 R_PM D cI cZ := hC
  have hl : lv_has ls 1 [(0, .int i0)] := hl
  obtain ⟨hx, hb, hml, hown, hts, hlk, hKK⟩ := id hC
  have hS : va_S A s.heap s.heap [] := va_S.rf
  unfold f_PM_layersOf at hf
  have E : ∀ (H : Heap) (locs : List Loc), va_P D classes [] H → va_S A s.heap H locs → W p l e (rm_ 0 (40 * 0)) s m args below meth c H locs 0 0 Q (F0 m 0 ls []) := by
    intro H locs hP hS
    refine lv_iload_n hx hb d_PM_layersOf_0 rfl (lv_at hl 0 rfl) ?_
    refine lv_bipush (v := 27) hx hb d_PM_layersOf_1 (by decide) ?_
    refine lv_idiv hx hb d_PM_layersOf_3 (by decide) ?_
    refine lv_iload_n hx hb d_PM_layersOf_4 rfl (lv_at hl 0 rfl) ?_
    refine lv_bipush (v := 9) hx hb d_PM_layersOf_5 (by decide) ?_
    refine lv_idiv hx hb d_PM_layersOf_7 (by decide) ?_
    refine lv_iconst (v := 3) hx hb d_PM_layersOf_8 (by decide) ?_
    refine lv_irem hx hb d_PM_layersOf_9 (by decide) ?_
    refine lv_iadd hx hb d_PM_layersOf_10 ?_
    refine lv_iload_n hx hb d_PM_layersOf_11 rfl (lv_at hl 0 rfl) ?_
    refine lv_iconst (v := 3) hx hb d_PM_layersOf_12 (by decide) ?_
    refine lv_idiv hx hb d_PM_layersOf_13 (by decide) ?_
    refine lv_iconst (v := 3) hx hb d_PM_layersOf_14 (by decide) ?_
    refine lv_irem hx hb d_PM_layersOf_15 (by decide) ?_
    refine lv_iadd hx hb d_PM_layersOf_16 ?_
    refine lv_iload_n hx hb d_PM_layersOf_17 rfl (lv_at hl 0 rfl) ?_
    refine lv_iconst (v := 3) hx hb d_PM_layersOf_18 (by decide) ?_
    refine lv_irem hx hb d_PM_layersOf_19 (by decide) ?_
    refine lv_iadd hx hb d_PM_layersOf_20 ?_
    have hr := Option.some.inj hf
    exact RET _ _ _ _ _ _ rfl (congrArg (fun r : Int32 => r) hr) rfl hP hD hS d_PM_layersOf_21
  exact E _ _ hP hS
set_option maxHeartbeats 4000000 in
set_option maxRecDepth 100000 in
theorem c_PM_findBest (l : Launch) (D : va_G) (cI cZ : ClassId) (a_p0 a_layer a_cabman a_page a_shows z_text z_readLayer z_readCabman z_trial z_book z_kept z_isKept z_seenCabman z_seenFinger z_seenOff z_seenCame z_value : Nat) (v_thrown : Int32) (v_textSize : Int32) (v_place : Int32) (v_cabmen : Int32) (v_readCabmen : Int32) (v_acts : Int32) (v_seen : Int32) (v_seed : Int64) (v_bestCleaning : Int32) (v_bestLayers : Int32) (v_bestMany : Int32) (v_underMany : Int32) (v_underLeast : Int32) (v_restMany : Int32) (v_restFirst : Int32) (v_layer : Nat → Int32) (v_cabman : Nat → Int32) (v_page : Nat → Int32) (v_shows : Nat → Int32) (res : Int32 × Int32 × Int32 × (Nat → Int32)) (hf : f_PM_findBest v_cabmen v_layer v_cabman v_page v_bestCleaning v_bestLayers v_bestMany v_shows = some res) : CtV l y_PM_findBest b_PM_findBest 3 none 3 D cI cZ [.ref a_p0] (cs_PM_findBest cI cZ a_p0 a_layer a_cabman a_page a_shows z_text z_readLayer z_readCabman z_trial z_book z_kept z_isKept z_seenCabman z_seenFinger z_seenOff z_seenCame z_value v_thrown v_textSize v_place v_cabmen v_readCabmen v_acts v_seen v_seed v_bestCleaning v_bestLayers v_bestMany v_underMany v_underLeast v_restMany v_restFirst v_layer v_cabman v_page v_shows) (cs_PM_findBest cI cZ a_p0 a_layer a_cabman a_page a_shows z_text z_readLayer z_readCabman z_trial z_book z_kept z_isKept z_seenCabman z_seenFinger z_seenOff z_seenCame z_value v_thrown v_textSize v_place v_cabmen v_readCabmen v_acts v_seen v_seed res.1 res.2.1 res.2.2.1 v_underMany v_underLeast v_restMany v_restFirst v_layer v_cabman v_page res.2.2.2) := by
  refine CtV_mk (by decide) (Nat.le_of_ble_eq_true rfl) ?_
  intro p e s m args below meth c A Q hC hA hP hD RET ls hl
  have hC : Cx p s m args meth c b_PM_findBest 3 R_PM D cI cZ := hC
  have hl : lv_has ls 3 [(0, .ref a_p0)] := hl
  obtain ⟨hx, hb, hml, hown, hts, hlk, hKK⟩ := id hC
  have hS : va_S A s.heap s.heap [] := va_S.rf
  have B_83 : ∀ (back_8 : Int32 → Int32 → Int32 → Int32 → (Nat → Int32) → Option (Int32 × Int32 × Int32 × (Nat → Int32))) (K_8 : ∀ (x1 : Int32) (v_bestCleaning : Int32) (v_bestLayers : Int32) (v_bestMany : Int32) (v_shows : Nat → Int32) (H : Heap) (locs : List Loc) (ls : Array Slot), va_P D classes (cs_PM_findBest cI cZ a_p0 a_layer a_cabman a_page a_shows z_text z_readLayer z_readCabman z_trial z_book z_kept z_isKept z_seenCabman z_seenFinger z_seenOff z_seenCame z_value v_thrown v_textSize v_place v_cabmen v_readCabmen v_acts v_seen v_seed v_bestCleaning v_bestLayers v_bestMany v_underMany v_underLeast v_restMany v_restFirst v_layer v_cabman v_page v_shows) H → va_D A (cs_PM_findBest cI cZ a_p0 a_layer a_cabman a_page a_shows z_text z_readLayer z_readCabman z_trial z_book z_kept z_isKept z_seenCabman z_seenFinger z_seenOff z_seenCame z_value v_thrown v_textSize v_place v_cabmen v_readCabmen v_acts v_seen v_seed v_bestCleaning v_bestLayers v_bestMany v_underMany v_underLeast v_restMany v_restFirst v_layer v_cabman v_page v_shows) → va_S A s.heap H locs → lv_has ls 3 [(0, .ref a_p0), (1, .int x1)] → back_8 x1 v_bestCleaning v_bestLayers v_bestMany v_shows = some res → W p l e (rm_ 3 (40 * 3)) s m args below meth c H locs 0 0 Q (F0 m 8 ls [])) (x1 : Int32) (v_bestCleaning : Int32) (v_bestLayers : Int32) (v_bestMany : Int32) (v_shows : Nat → Int32) (H : Heap) (locs : List Loc) (ls : Array Slot), va_P D classes (cs_PM_findBest cI cZ a_p0 a_layer a_cabman a_page a_shows z_text z_readLayer z_readCabman z_trial z_book z_kept z_isKept z_seenCabman z_seenFinger z_seenOff z_seenCame z_value v_thrown v_textSize v_place v_cabmen v_readCabmen v_acts v_seen v_seed v_bestCleaning v_bestLayers v_bestMany v_underMany v_underLeast v_restMany v_restFirst v_layer v_cabman v_page v_shows) H → va_D A (cs_PM_findBest cI cZ a_p0 a_layer a_cabman a_page a_shows z_text z_readLayer z_readCabman z_trial z_book z_kept z_isKept z_seenCabman z_seenFinger z_seenOff z_seenCame z_value v_thrown v_textSize v_place v_cabmen v_readCabmen v_acts v_seen v_seed v_bestCleaning v_bestLayers v_bestMany v_underMany v_underLeast v_restMany v_restFirst v_layer v_cabman v_page v_shows) → va_S A s.heap H locs → lv_has ls 3 [(0, .ref a_p0), (1, .int x1)] → f_PM_findBest_83 back_8 v_cabmen v_layer v_cabman v_page x1 v_bestCleaning v_bestLayers v_bestMany v_shows = some res → W p l e (rm_ 3 (40 * 3)) s m args below meth c H locs 0 0 Q (F0 m 83 ls []) := by
    intro back_8 K_8 x1 v_bestCleaning v_bestLayers v_bestMany v_shows H locs ls hP hD hS hl hf
    unfold f_PM_findBest_83 at hf
    refine lv_iinc (v := x1 + 1) (lv' := [(1, .int (x1 + 1)), (0, .ref a_p0)]) hx hb d_PM_findBest_83 hl (k := 1) rfl (rfl) (by decide) rfl (fun ls hl => ?_)
    refine lv_goto (tgt := 8) hx hb d_PM_findBest_86 (by decide) ?_
    exact K_8 (x1 + 1) v_bestCleaning v_bestLayers v_bestMany v_shows _ _ _ hP hD hS (lv_sub hl [1, 0] rfl) hf
  have B_62 : ∀ (back_8 : Int32 → Int32 → Int32 → Int32 → (Nat → Int32) → Option (Int32 × Int32 × Int32 × (Nat → Int32))) (K_8 : ∀ (x1 : Int32) (v_bestCleaning : Int32) (v_bestLayers : Int32) (v_bestMany : Int32) (v_shows : Nat → Int32) (H : Heap) (locs : List Loc) (ls : Array Slot), va_P D classes (cs_PM_findBest cI cZ a_p0 a_layer a_cabman a_page a_shows z_text z_readLayer z_readCabman z_trial z_book z_kept z_isKept z_seenCabman z_seenFinger z_seenOff z_seenCame z_value v_thrown v_textSize v_place v_cabmen v_readCabmen v_acts v_seen v_seed v_bestCleaning v_bestLayers v_bestMany v_underMany v_underLeast v_restMany v_restFirst v_layer v_cabman v_page v_shows) H → va_D A (cs_PM_findBest cI cZ a_p0 a_layer a_cabman a_page a_shows z_text z_readLayer z_readCabman z_trial z_book z_kept z_isKept z_seenCabman z_seenFinger z_seenOff z_seenCame z_value v_thrown v_textSize v_place v_cabmen v_readCabmen v_acts v_seen v_seed v_bestCleaning v_bestLayers v_bestMany v_underMany v_underLeast v_restMany v_restFirst v_layer v_cabman v_page v_shows) → va_S A s.heap H locs → lv_has ls 3 [(0, .ref a_p0), (1, .int x1)] → back_8 x1 v_bestCleaning v_bestLayers v_bestMany v_shows = some res → W p l e (rm_ 3 (40 * 3)) s m args below meth c H locs 0 0 Q (F0 m 8 ls [])) (x1 : Int32) (x2 : Int32) (v_bestCleaning : Int32) (v_bestLayers : Int32) (v_bestMany : Int32) (v_shows : Nat → Int32) (H : Heap) (locs : List Loc) (ls : Array Slot), va_P D classes (cs_PM_findBest cI cZ a_p0 a_layer a_cabman a_page a_shows z_text z_readLayer z_readCabman z_trial z_book z_kept z_isKept z_seenCabman z_seenFinger z_seenOff z_seenCame z_value v_thrown v_textSize v_place v_cabmen v_readCabmen v_acts v_seen v_seed v_bestCleaning v_bestLayers v_bestMany v_underMany v_underLeast v_restMany v_restFirst v_layer v_cabman v_page v_shows) H → va_D A (cs_PM_findBest cI cZ a_p0 a_layer a_cabman a_page a_shows z_text z_readLayer z_readCabman z_trial z_book z_kept z_isKept z_seenCabman z_seenFinger z_seenOff z_seenCame z_value v_thrown v_textSize v_place v_cabmen v_readCabmen v_acts v_seen v_seed v_bestCleaning v_bestLayers v_bestMany v_underMany v_underLeast v_restMany v_restFirst v_layer v_cabman v_page v_shows) → va_S A s.heap H locs → lv_has ls 3 [(0, .ref a_p0), (1, .int x1), (2, .int x2)] → f_PM_findBest_62 back_8 v_cabmen v_layer v_cabman v_page x1 x2 v_bestCleaning v_bestLayers v_bestMany v_shows = some res → W p l e (rm_ 3 (40 * 3)) s m args below meth c H locs 0 0 Q (F0 m 62 ls []) := by
    intro back_8 K_8 x1 x2 v_bestCleaning v_bestLayers v_bestMany v_shows H locs ls hP hD hS hl hf
    unfold f_PM_findBest_62 at hf
    refine lv_aload_n hx hb d_PM_findBest_62 rfl (lv_at hl 0 rfl) ?_
    refine lv_iload_n hx hb d_PM_findBest_63 rfl (lv_at hl 2 rfl) ?_
    refine pf_PM_156 hC hP hD hS 0 rfl (Nat.le_of_ble_eq_true rfl) d_PM_findBest_64 (fun H locs hP hD hS => ?_)
    have hP : va_P D classes (cs_PM_findBest cI cZ a_p0 a_layer a_cabman a_page a_shows z_text z_readLayer z_readCabman z_trial z_book z_kept z_isKept z_seenCabman z_seenFinger z_seenOff z_seenCame z_value v_thrown v_textSize v_place v_cabmen v_readCabmen v_acts v_seen v_seed v_bestCleaning v_bestLayers x2 v_underMany v_underLeast v_restMany v_restFirst v_layer v_cabman v_page v_shows) H := hP
    have hD : va_D A (cs_PM_findBest cI cZ a_p0 a_layer a_cabman a_page a_shows z_text z_readLayer z_readCabman z_trial z_book z_kept z_isKept z_seenCabman z_seenFinger z_seenOff z_seenCame z_value v_thrown v_textSize v_place v_cabmen v_readCabmen v_acts v_seen v_seed v_bestCleaning v_bestLayers x2 v_underMany v_underLeast v_restMany v_restFirst v_layer v_cabman v_page v_shows) := hD
    refine lv_aload_n hx hb d_PM_findBest_67 rfl (lv_at hl 0 rfl) ?_
    refine lv_iload_n hx hb d_PM_findBest_68 rfl (lv_at hl 1 rfl) ?_
    obtain ⟨r1, h2, hf⟩ := o_bind hf
    refine cSi0 (rest := [.ref a_p0]) (c_PM_layersOf l D cI cZ x1 r1 h2) hC hA hP hD hS hl.1 cw_PM_165 ⟨Nat.le_of_ble_eq_true rfl, Nat.le_of_ble_eq_true rfl⟩ rfl rfl (Nat.le_of_ble_eq_true rfl) d_PM_findBest_69 ⟨Nat.zero_le _, Nat.zero_le _⟩ (fun H locs hP hS => ?_)
    refine pf_PM_168 hC hP hD hS 0 rfl (Nat.le_of_ble_eq_true rfl) d_PM_findBest_72 (fun H locs hP hD hS => ?_)
    have hP : va_P D classes (cs_PM_findBest cI cZ a_p0 a_layer a_cabman a_page a_shows z_text z_readLayer z_readCabman z_trial z_book z_kept z_isKept z_seenCabman z_seenFinger z_seenOff z_seenCame z_value v_thrown v_textSize v_place v_cabmen v_readCabmen v_acts v_seen v_seed v_bestCleaning r1 x2 v_underMany v_underLeast v_restMany v_restFirst v_layer v_cabman v_page v_shows) H := hP
    have hD : va_D A (cs_PM_findBest cI cZ a_p0 a_layer a_cabman a_page a_shows z_text z_readLayer z_readCabman z_trial z_book z_kept z_isKept z_seenCabman z_seenFinger z_seenOff z_seenCame z_value v_thrown v_textSize v_place v_cabmen v_readCabmen v_acts v_seen v_seed v_bestCleaning r1 x2 v_underMany v_underLeast v_restMany v_restFirst v_layer v_cabman v_page v_shows) := hD
    refine lv_aload_n hx hb d_PM_findBest_75 rfl (lv_at hl 0 rfl) ?_
    refine lv_iload_n hx hb d_PM_findBest_76 rfl (lv_at hl 1 rfl) ?_
    obtain ⟨r3, h4, hf⟩ := o_bind hf
    refine cSi0 (rest := [.ref a_p0]) (c_PM_figuresOf l D cI cZ x1 r3 h4) hC hA hP hD hS hl.1 cw_PM_159 ⟨Nat.le_of_ble_eq_true rfl, Nat.le_of_ble_eq_true rfl⟩ rfl rfl (Nat.le_of_ble_eq_true rfl) d_PM_findBest_77 ⟨Nat.zero_le _, Nat.zero_le _⟩ (fun H locs hP hS => ?_)
    refine pf_PM_171 hC hP hD hS 0 rfl (Nat.le_of_ble_eq_true rfl) d_PM_findBest_80 (fun H locs hP hD hS => ?_)
    have hP : va_P D classes (cs_PM_findBest cI cZ a_p0 a_layer a_cabman a_page a_shows z_text z_readLayer z_readCabman z_trial z_book z_kept z_isKept z_seenCabman z_seenFinger z_seenOff z_seenCame z_value v_thrown v_textSize v_place v_cabmen v_readCabmen v_acts v_seen v_seed r3 r1 x2 v_underMany v_underLeast v_restMany v_restFirst v_layer v_cabman v_page v_shows) H := hP
    have hD : va_D A (cs_PM_findBest cI cZ a_p0 a_layer a_cabman a_page a_shows z_text z_readLayer z_readCabman z_trial z_book z_kept z_isKept z_seenCabman z_seenFinger z_seenOff z_seenCame z_value v_thrown v_textSize v_place v_cabmen v_readCabmen v_acts v_seen v_seed r3 r1 x2 v_underMany v_underLeast v_restMany v_restFirst v_layer v_cabman v_page v_shows) := hD
    exact B_83 back_8 K_8 x1 r3 r1 x2 v_shows _ _ _ hP hD hS (lv_sub hl [0, 1] rfl) hf
  have B_8 : ∀  (n : Nat) (x1 : Int32) (v_bestCleaning : Int32) (v_bestLayers : Int32) (v_bestMany : Int32) (v_shows : Nat → Int32) (H : Heap) (locs : List Loc) (ls : Array Slot), va_P D classes (cs_PM_findBest cI cZ a_p0 a_layer a_cabman a_page a_shows z_text z_readLayer z_readCabman z_trial z_book z_kept z_isKept z_seenCabman z_seenFinger z_seenOff z_seenCame z_value v_thrown v_textSize v_place v_cabmen v_readCabmen v_acts v_seen v_seed v_bestCleaning v_bestLayers v_bestMany v_underMany v_underLeast v_restMany v_restFirst v_layer v_cabman v_page v_shows) H → va_D A (cs_PM_findBest cI cZ a_p0 a_layer a_cabman a_page a_shows z_text z_readLayer z_readCabman z_trial z_book z_kept z_isKept z_seenCabman z_seenFinger z_seenOff z_seenCame z_value v_thrown v_textSize v_place v_cabmen v_readCabmen v_acts v_seen v_seed v_bestCleaning v_bestLayers v_bestMany v_underMany v_underLeast v_restMany v_restFirst v_layer v_cabman v_page v_shows) → va_S A s.heap H locs → lv_has ls 3 [(0, .ref a_p0), (1, .int x1)] → f_PM_findBest_8  v_cabmen v_layer v_cabman v_page n x1 v_bestCleaning v_bestLayers v_bestMany v_shows = some res → W p l e (rm_ 3 (40 * 3)) s m args below meth c H locs 0 0 Q (F0 m 8 ls []) := by
    intro  n
    induction n with
    | zero => intro x1 v_bestCleaning v_bestLayers v_bestMany v_shows H locs ls hP hD hS hl hf; exact nomatch hf
    | succ n ih =>
      intro x1 v_bestCleaning v_bestLayers v_bestMany v_shows H locs ls hP hD hS hl hf
      have hf : f_PM_findBest_8_b  (f_PM_findBest_8  v_cabmen v_layer v_cabman v_page n) v_cabmen v_layer v_cabman v_page x1 v_bestCleaning v_bestLayers v_bestMany v_shows = some res := hf
      generalize f_PM_findBest_8  v_cabmen v_layer v_cabman v_page n = back_8 at ih hf
      have K_8 := ih
      unfold f_PM_findBest_8_b at hf
      refine lv_iload_n hx hb d_PM_findBest_8 rfl (lv_at hl 1 rfl) ?_
      refine lv_bipush (v := 81) hx hb d_PM_findBest_9 (by decide) ?_
      refine lv_icmp_ge (tgt := 89) hx hb d_PM_findBest_11 (by decide) (fun c1 => ?_) (fun c1 => ?_)
      · have hf := o_pos c1 hf
        have hr := Option.some.inj hf
        exact RET _ _ _ _ _ (congrArg (fun r : Int32 × Int32 × Int32 × (Nat → Int32) => (cs_PM_findBest cI cZ a_p0 a_layer a_cabman a_page a_shows z_text z_readLayer z_readCabman z_trial z_book z_kept z_isKept z_seenCabman z_seenFinger z_seenOff z_seenCame z_value v_thrown v_textSize v_place v_cabmen v_readCabmen v_acts v_seen v_seed r.1 r.2.1 r.2.2.1 v_underMany v_underLeast v_restMany v_restFirst v_layer v_cabman v_page r.2.2.2)) hr) hP hD hS d_PM_findBest_89
      · have hf := o_neg c1 hf
        refine lv_aload_n hx hb d_PM_findBest_14 rfl (lv_at hl 0 rfl) ?_
        refine lv_iload_n hx hb d_PM_findBest_15 rfl (lv_at hl 1 rfl) ?_
        obtain ⟨r2, h3, hf⟩ := o_bind hf
        refine cSi0 (rest := [.ref a_p0]) (c_PM_figuresOf l D cI cZ x1 r2 h3) hC hA hP hD hS hl.1 cw_PM_159 ⟨Nat.le_of_ble_eq_true rfl, Nat.le_of_ble_eq_true rfl⟩ rfl rfl (Nat.le_of_ble_eq_true rfl) d_PM_findBest_16 ⟨Nat.zero_le _, Nat.zero_le _⟩ (fun H locs hP hS => ?_)
        obtain ⟨r4, h5, hf⟩ := o_bind hf
        refine cVi (rest := []) (wr := [(a_cabman, .inl (cI, 30, .inl v_cabman))]) (wn := (cs_PM_findBest cI cZ a_p0 a_layer a_cabman a_page a_shows z_text z_readLayer z_readCabman z_trial z_book z_kept z_isKept z_seenCabman z_seenFinger z_seenOff z_seenCame z_value v_thrown v_textSize v_place v_cabmen v_readCabmen v_acts v_seen v_seed v_bestCleaning v_bestLayers v_bestMany v_underMany v_underLeast v_restMany v_restFirst v_layer v_cabman v_page r4.2)) (c_PM_layCleaning l D cI cZ a_p0 a_layer a_page a_shows z_text a_cabman z_readLayer z_readCabman z_trial z_book z_kept z_isKept z_seenCabman z_seenFinger z_seenOff z_seenCame z_value r2 v_thrown v_textSize v_place v_cabmen v_readCabmen v_acts v_seen v_seed v_bestCleaning v_bestLayers v_bestMany v_underMany v_underLeast v_restMany v_restFirst v_layer v_page v_shows r4 h5) hC hA hP hD hS hl.1 cw_PM_153 0 rfl rfl rfl ⟨Nat.le_of_ble_eq_true rfl, Nat.le_of_ble_eq_true rfl⟩ rfl rfl (Nat.le_of_ble_eq_true rfl) d_PM_findBest_19 ⟨Nat.zero_le _, Nat.zero_le _⟩ [0, 1, 3, 4] [2] [1, 2, 0, 3, 4] (by decide) (Cut_mk rfl rfl (by decide) (by decide) (by decide) rfl) (fun H locs hP hD hS => ?_)
        refine lv_if_eq (tgt := 83) hx hb d_PM_findBest_22 (by decide) (fun c6 => ?_) (fun c6 => ?_)
        · have hf := o_pos c6 hf
          exact B_83 back_8 K_8 x1 v_bestCleaning v_bestLayers v_bestMany r4.2 _ _ _ hP hD hS (lv_sub hl [0, 1] rfl) hf
        · have hf := o_neg c6 hf
          refine lv_aload_n hx hb d_PM_findBest_25 rfl (lv_at hl 0 rfl) ?_
          refine lv_bipush (v := 15) hx hb d_PM_findBest_26 (by decide) ?_
          obtain ⟨r7, h8, hf⟩ := o_bind hf
          refine cVi (rest := []) (wr := [(a_layer, .inl (cI, 12, .inl v_layer)), (a_page, .inl (cI, 16, .inl v_page))]) (wn := (cs_PM_findBest cI cZ a_p0 a_layer a_cabman a_page a_shows z_text z_readLayer z_readCabman z_trial z_book z_kept z_isKept z_seenCabman z_seenFinger z_seenOff z_seenCame z_value v_thrown v_textSize v_place v_cabmen v_readCabmen v_acts v_seen v_seed v_bestCleaning v_bestLayers v_bestMany v_underMany v_underLeast v_restMany v_restFirst v_layer v_cabman v_page r4.2)) (c_PM_calledOf l D cI cZ a_p0 a_cabman a_shows z_text a_layer z_readLayer z_readCabman a_page z_trial z_book z_kept z_isKept z_seenCabman z_seenFinger z_seenOff z_seenCame z_value 15 v_thrown v_textSize v_place v_cabmen v_readCabmen v_acts v_seen v_seed v_bestCleaning v_bestLayers v_bestMany v_underMany v_underLeast v_restMany v_restFirst v_cabman r4.2 r7 h8) hC hA hP hD hS hl.1 cw_PM_120 0 rfl rfl rfl ⟨Nat.le_of_ble_eq_true rfl, Nat.le_of_ble_eq_true rfl⟩ rfl rfl (Nat.le_of_ble_eq_true rfl) d_PM_findBest_28 ⟨Nat.zero_le _, Nat.zero_le _⟩ [0, 2, 4] [1, 3] [2, 0, 3, 1, 4] (by decide) (Cut_mk rfl rfl (by decide) (by decide) (by decide) rfl) (fun H locs hP hD hS => ?_)
          obtain ⟨r9, h10, hf⟩ := o_bind hf
          refine cSi0 (rest := []) (c_PM_many l D cI cZ r7 r9 h10) hC hA hP hD hS hl.1 cw_PM_162 ⟨Nat.le_of_ble_eq_true rfl, Nat.le_of_ble_eq_true rfl⟩ rfl rfl (Nat.le_of_ble_eq_true rfl) d_PM_findBest_31 ⟨Nat.zero_le _, Nat.zero_le _⟩ (fun H locs hP hS => ?_)
          refine lv_istore_n (lv' := [(2, .int r9), (0, .ref a_p0), (1, .int x1)]) hx hb d_PM_findBest_34 rfl hl (by decide) rfl (fun ls hl => ?_)
          refine lv_iload_n hx hb d_PM_findBest_35 rfl (lv_at hl 0 rfl) ?_
          refine lv_aload_n hx hb d_PM_findBest_36 rfl (lv_at hl 1 rfl) ?_
          refine gf_PM_156 hC hP 0 rfl rfl d_PM_findBest_37 ?_
          refine lv_icmp_gt (tgt := 62) hx hb d_PM_findBest_40 (by decide) (fun c11 => ?_) (fun c11 => ?_)
          · have hf := o_pos c11 hf
            exact B_62 back_8 K_8 x1 r9 v_bestCleaning v_bestLayers v_bestMany r4.2 _ _ _ hP hD hS (lv_sub hl [1, 2, 0] rfl) hf
          · have hf := o_neg c11 hf
            refine lv_iload_n hx hb d_PM_findBest_43 rfl (lv_at hl 0 rfl) ?_
            refine lv_aload_n hx hb d_PM_findBest_44 rfl (lv_at hl 1 rfl) ?_
            refine gf_PM_156 hC hP 0 rfl rfl d_PM_findBest_45 ?_
            refine lv_icmp_ne (tgt := 83) hx hb d_PM_findBest_48 (by decide) (fun c12 => ?_) (fun c12 => ?_)
            · have hf := o_neg c12 hf
              exact B_83 back_8 K_8 x1 v_bestCleaning v_bestLayers v_bestMany r4.2 _ _ _ hP hD hS (lv_sub hl [1, 2] rfl) hf
            · have hf := o_pos c12 hf
              refine lv_iload_n hx hb d_PM_findBest_51 rfl (lv_at hl 2 rfl) ?_
              obtain ⟨r13, h14, hf⟩ := o_bind hf
              refine cSi0 (rest := []) (c_PM_layersOf l D cI cZ x1 r13 h14) hC hA hP hD hS hl.1 cw_PM_165 ⟨Nat.le_of_ble_eq_true rfl, Nat.le_of_ble_eq_true rfl⟩ rfl rfl (Nat.le_of_ble_eq_true rfl) d_PM_findBest_52 ⟨Nat.zero_le _, Nat.zero_le _⟩ (fun H locs hP hS => ?_)
              refine lv_aload_n hx hb d_PM_findBest_55 rfl (lv_at hl 1 rfl) ?_
              refine gf_PM_168 hC hP 0 rfl rfl d_PM_findBest_56 ?_
              refine lv_icmp_ge (tgt := 83) hx hb d_PM_findBest_59 (by decide) (fun c15 => ?_) (fun c15 => ?_)
              · have hf := o_pos c15 hf
                exact B_83 back_8 K_8 x1 v_bestCleaning v_bestLayers v_bestMany r4.2 _ _ _ hP hD hS (lv_sub hl [1, 2] rfl) hf
              · have hf := o_neg c15 hf
                exact B_62 back_8 K_8 x1 r9 v_bestCleaning v_bestLayers v_bestMany r4.2 _ _ _ hP hD hS (lv_sub hl [1, 2, 0] rfl) hf
  unfold f_PM_findBest at hf
  have E : ∀ (H : Heap) (locs : List Loc), va_P D classes (cs_PM_findBest cI cZ a_p0 a_layer a_cabman a_page a_shows z_text z_readLayer z_readCabman z_trial z_book z_kept z_isKept z_seenCabman z_seenFinger z_seenOff z_seenCame z_value v_thrown v_textSize v_place v_cabmen v_readCabmen v_acts v_seen v_seed v_bestCleaning v_bestLayers v_bestMany v_underMany v_underLeast v_restMany v_restFirst v_layer v_cabman v_page v_shows) H → va_S A s.heap H locs → W p l e (rm_ 3 (40 * 3)) s m args below meth c H locs 0 0 Q (F0 m 0 ls []) := by
    intro H locs hP hS
    refine lv_aload_n hx hb d_PM_findBest_0 rfl (lv_at hl 0 rfl) ?_
    refine lv_bipush (v := (-9)) hx hb d_PM_findBest_1 (by decide) ?_
    refine pf_PM_156 hC hP hD hS 0 rfl (Nat.le_of_ble_eq_true rfl) d_PM_findBest_3 (fun H locs hP hD hS => ?_)
    have hP : va_P D classes (cs_PM_findBest cI cZ a_p0 a_layer a_cabman a_page a_shows z_text z_readLayer z_readCabman z_trial z_book z_kept z_isKept z_seenCabman z_seenFinger z_seenOff z_seenCame z_value v_thrown v_textSize v_place v_cabmen v_readCabmen v_acts v_seen v_seed v_bestCleaning v_bestLayers ((-9)) v_underMany v_underLeast v_restMany v_restFirst v_layer v_cabman v_page v_shows) H := hP
    have hD : va_D A (cs_PM_findBest cI cZ a_p0 a_layer a_cabman a_page a_shows z_text z_readLayer z_readCabman z_trial z_book z_kept z_isKept z_seenCabman z_seenFinger z_seenOff z_seenCame z_value v_thrown v_textSize v_place v_cabmen v_readCabmen v_acts v_seen v_seed v_bestCleaning v_bestLayers ((-9)) v_underMany v_underLeast v_restMany v_restFirst v_layer v_cabman v_page v_shows) := hD
    refine lv_iconst (v := 0) hx hb d_PM_findBest_6 (by decide) ?_
    refine lv_istore_n (lv' := [(1, .int 0), (0, .ref a_p0)]) hx hb d_PM_findBest_7 rfl hl (by decide) rfl (fun ls hl => ?_)
    exact B_8 300 0 v_bestCleaning v_bestLayers ((-9)) v_shows _ _ _ hP hD hS (lv_sub hl [1, 0] rfl) hf
  exact E _ _ hP hS
set_option maxHeartbeats 4000000 in
set_option maxRecDepth 100000 in
theorem c_PM_best (l : Launch) (D : va_G) (cI cZ : ClassId) (a_p0 a_layer a_cabman a_page a_shows z_text z_readLayer z_readCabman z_trial z_book z_kept z_isKept z_seenCabman z_seenFinger z_seenOff z_seenCame z_value : Nat) (i1 : Int32) (v_thrown : Int32) (v_textSize : Int32) (v_place : Int32) (v_cabmen : Int32) (v_readCabmen : Int32) (v_acts : Int32) (v_seen : Int32) (v_seed : Int64) (v_bestCleaning : Int32) (v_bestLayers : Int32) (v_bestMany : Int32) (v_underMany : Int32) (v_underLeast : Int32) (v_restMany : Int32) (v_restFirst : Int32) (v_layer : Nat → Int32) (v_cabman : Nat → Int32) (v_page : Nat → Int32) (v_shows : Nat → Int32) (res : Int32 × Int32 × Int32 × Int32 × Int32 × (Nat → Int32)) (hf : f_PM_best i1 v_cabmen v_layer v_cabman v_page v_thrown v_bestCleaning v_bestLayers v_bestMany v_shows = some res) : CtI l y_PM_best b_PM_best 2 (some .int) 4 D cI cZ [.ref a_p0, .int i1] (cs_PM_best cI cZ a_p0 a_layer a_cabman a_page a_shows z_text z_readLayer z_readCabman z_trial z_book z_kept z_isKept z_seenCabman z_seenFinger z_seenOff z_seenCame z_value v_thrown v_textSize v_place v_cabmen v_readCabmen v_acts v_seen v_seed v_bestCleaning v_bestLayers v_bestMany v_underMany v_underLeast v_restMany v_restFirst v_layer v_cabman v_page v_shows) res.1 (cs_PM_best cI cZ a_p0 a_layer a_cabman a_page a_shows z_text z_readLayer z_readCabman z_trial z_book z_kept z_isKept z_seenCabman z_seenFinger z_seenOff z_seenCame z_value res.2.1 v_textSize v_place v_cabmen v_readCabmen v_acts v_seen v_seed res.2.2.1 res.2.2.2.1 res.2.2.2.2.1 v_underMany v_underLeast v_restMany v_restFirst v_layer v_cabman v_page res.2.2.2.2.2) := by
  refine CtI_mk (by decide) (Nat.le_of_ble_eq_true rfl) ?_
  intro p e s m args below meth c A Q hC hA hP hD RET ls hl
  have hC : Cx p s m args meth c b_PM_best 2 R_PM D cI cZ := hC
  have hl : lv_has ls 2 [(0, .ref a_p0), (1, .int i1)] := hl
  obtain ⟨hx, hb, hml, hown, hts, hlk, hKK⟩ := id hC
  have hS : va_S A s.heap s.heap [] := va_S.rf
  have B_37 : ∀  (w0 : Int32) (v_thrown : Int32) (v_bestCleaning : Int32) (v_bestLayers : Int32) (v_bestMany : Int32) (v_shows : Nat → Int32) (H : Heap) (locs : List Loc) (ls : Array Slot), va_P D classes (cs_PM_best cI cZ a_p0 a_layer a_cabman a_page a_shows z_text z_readLayer z_readCabman z_trial z_book z_kept z_isKept z_seenCabman z_seenFinger z_seenOff z_seenCame z_value v_thrown v_textSize v_place v_cabmen v_readCabmen v_acts v_seen v_seed v_bestCleaning v_bestLayers v_bestMany v_underMany v_underLeast v_restMany v_restFirst v_layer v_cabman v_page v_shows) H → va_D A (cs_PM_best cI cZ a_p0 a_layer a_cabman a_page a_shows z_text z_readLayer z_readCabman z_trial z_book z_kept z_isKept z_seenCabman z_seenFinger z_seenOff z_seenCame z_value v_thrown v_textSize v_place v_cabmen v_readCabmen v_acts v_seen v_seed v_bestCleaning v_bestLayers v_bestMany v_underMany v_underLeast v_restMany v_restFirst v_layer v_cabman v_page v_shows) → va_S A s.heap H locs → lv_has ls 2 [] → f_PM_best_37  v_cabmen v_layer v_cabman v_page w0 v_thrown v_bestCleaning v_bestLayers v_bestMany v_shows = some res → W p l e (rm_ 4 (40 * 4)) s m args below meth c H locs 0 0 Q (F0 m 37 ls [.int w0]) := by
    intro  w0 v_thrown v_bestCleaning v_bestLayers v_bestMany v_shows H locs ls hP hD hS hl hf
    unfold f_PM_best_37 at hf
    have hr := Option.some.inj hf
    exact RET _ _ _ _ _ _ rfl (congrArg (fun r : Int32 × Int32 × Int32 × Int32 × Int32 × (Nat → Int32) => r.1) hr) (congrArg (fun r : Int32 × Int32 × Int32 × Int32 × Int32 × (Nat → Int32) => (cs_PM_best cI cZ a_p0 a_layer a_cabman a_page a_shows z_text z_readLayer z_readCabman z_trial z_book z_kept z_isKept z_seenCabman z_seenFinger z_seenOff z_seenCame z_value r.2.1 v_textSize v_place v_cabmen v_readCabmen v_acts v_seen v_seed r.2.2.1 r.2.2.2.1 r.2.2.2.2.1 v_underMany v_underLeast v_restMany v_restFirst v_layer v_cabman v_page r.2.2.2.2.2)) hr) hP hD hS d_PM_best_37
  unfold f_PM_best at hf
  have E : ∀ (H : Heap) (locs : List Loc), va_P D classes (cs_PM_best cI cZ a_p0 a_layer a_cabman a_page a_shows z_text z_readLayer z_readCabman z_trial z_book z_kept z_isKept z_seenCabman z_seenFinger z_seenOff z_seenCame z_value v_thrown v_textSize v_place v_cabmen v_readCabmen v_acts v_seen v_seed v_bestCleaning v_bestLayers v_bestMany v_underMany v_underLeast v_restMany v_restFirst v_layer v_cabman v_page v_shows) H → va_S A s.heap H locs → W p l e (rm_ 4 (40 * 4)) s m args below meth c H locs 0 0 Q (F0 m 0 ls []) := by
    intro H locs hP hS
    refine lv_aload_n hx hb d_PM_best_0 rfl (lv_at hl 0 rfl) ?_
    refine lv_iconst (v := 0) hx hb d_PM_best_1 (by decide) ?_
    refine pf_PM_59 hC hP hD hS 0 rfl (Nat.le_of_ble_eq_true rfl) d_PM_best_2 (fun H locs hP hD hS => ?_)
    have hP : va_P D classes (cs_PM_best cI cZ a_p0 a_layer a_cabman a_page a_shows z_text z_readLayer z_readCabman z_trial z_book z_kept z_isKept z_seenCabman z_seenFinger z_seenOff z_seenCame z_value 0 v_textSize v_place v_cabmen v_readCabmen v_acts v_seen v_seed v_bestCleaning v_bestLayers v_bestMany v_underMany v_underLeast v_restMany v_restFirst v_layer v_cabman v_page v_shows) H := hP
    have hD : va_D A (cs_PM_best cI cZ a_p0 a_layer a_cabman a_page a_shows z_text z_readLayer z_readCabman z_trial z_book z_kept z_isKept z_seenCabman z_seenFinger z_seenOff z_seenCame z_value 0 v_textSize v_place v_cabmen v_readCabmen v_acts v_seen v_seed v_bestCleaning v_bestLayers v_bestMany v_underMany v_underLeast v_restMany v_restFirst v_layer v_cabman v_page v_shows) := hD
    refine lv_iload_n hx hb d_PM_best_5 rfl (lv_at hl 1 rfl) ?_
    refine lv_i2l (v := Int32.toInt64 i1) hx hb d_PM_best_6 rfl ?_
    refine lv_lconst (v := 0) hx hb d_PM_best_7 (by decide) ?_
    refine lv_lconst (v := 1) hx hb d_PM_best_8 (by decide) ?_
    obtain ⟨r1, h2, hf⟩ := o_bind hf
    refine cSi0 (rest := []) (c_PM_in l D cI cZ (Int32.toInt64 i1) 0 1 r1 h2) hC hA hP hD hS hl.1 cw_PM_66 ⟨Nat.le_of_ble_eq_true rfl, Nat.le_of_ble_eq_true rfl⟩ rfl rfl (Nat.le_of_ble_eq_true rfl) d_PM_best_9 ⟨Nat.zero_le _, Nat.zero_le _⟩ (fun H locs hP hS => ?_)
    refine lv_if_ne (tgt := 18) hx hb d_PM_best_12 (by decide) (fun c3 => ?_) (fun c3 => ?_)
    · have hf := o_neg c3 hf
      refine lv_aload_n hx hb d_PM_best_18 rfl (lv_at hl 0 rfl) ?_
      obtain ⟨r4, h5, hf⟩ := o_bind hf
      refine cVv (rest := []) (wr := []) (wn := (cs_PM_best cI cZ a_p0 a_layer a_cabman a_page a_shows z_text z_readLayer z_readCabman z_trial z_book z_kept z_isKept z_seenCabman z_seenFinger z_seenOff z_seenCame z_value 0 v_textSize v_place v_cabmen v_readCabmen v_acts v_seen v_seed r4.1 r4.2.1 r4.2.2.1 v_underMany v_underLeast v_restMany v_restFirst v_layer v_cabman v_page r4.2.2.2)) (c_PM_findBest l D cI cZ a_p0 a_layer a_cabman a_page a_shows z_text z_readLayer z_readCabman z_trial z_book z_kept z_isKept z_seenCabman z_seenFinger z_seenOff z_seenCame z_value 0 v_textSize v_place v_cabmen v_readCabmen v_acts v_seen v_seed v_bestCleaning v_bestLayers v_bestMany v_underMany v_underLeast v_restMany v_restFirst v_layer v_cabman v_page v_shows r4 h5) hC hA hP hD hS hl.1 cw_PM_174 0 rfl rfl rfl ⟨Nat.le_of_ble_eq_true rfl, Nat.le_of_ble_eq_true rfl⟩ rfl rfl (Nat.le_of_ble_eq_true rfl) d_PM_best_19 ⟨Nat.zero_le _, Nat.zero_le _⟩ [0, 1, 2, 3, 4] [] [0, 1, 2, 3, 4] (by decide) (Cut_mk rfl rfl (by decide) (by decide) (by decide) rfl) (fun H locs hP hD hS => ?_)
      refine lv_iload_n hx hb d_PM_best_22 rfl (lv_at hl 1 rfl) ?_
      refine lv_if_ne (tgt := 33) hx hb d_PM_best_23 (by decide) (fun c6 => ?_) (fun c6 => ?_)
      · have hf := o_neg c6 hf
        refine lv_aload_n hx hb d_PM_best_33 rfl (lv_at hl 0 rfl) ?_
        refine gf_PM_156 hC hP 0 rfl rfl d_PM_best_34 ?_
        exact B_37 r4.2.2.1 0 r4.1 r4.2.1 r4.2.2.1 r4.2.2.2 _ _ _ hP hD hS (lv_sub hl [] rfl) hf
      · have hf := o_pos c6 hf
        refine lv_aload_n hx hb d_PM_best_26 rfl (lv_at hl 0 rfl) ?_
        refine gf_PM_171 hC hP 0 rfl rfl d_PM_best_27 ?_
        refine lv_goto (tgt := 37) hx hb d_PM_best_30 (by decide) ?_
        exact B_37 r4.1 0 r4.1 r4.2.1 r4.2.2.1 r4.2.2.2 _ _ _ hP hD hS (lv_sub hl [] rfl) hf
    · have hf := o_pos c3 hf
      refine lv_bipush (v := (-2)) hx hb d_PM_best_15 (by decide) ?_
      have hr := Option.some.inj hf
      exact RET _ _ _ _ _ _ rfl (congrArg (fun r : Int32 × Int32 × Int32 × Int32 × Int32 × (Nat → Int32) => r.1) hr) (congrArg (fun r : Int32 × Int32 × Int32 × Int32 × Int32 × (Nat → Int32) => (cs_PM_best cI cZ a_p0 a_layer a_cabman a_page a_shows z_text z_readLayer z_readCabman z_trial z_book z_kept z_isKept z_seenCabman z_seenFinger z_seenOff z_seenCame z_value r.2.1 v_textSize v_place v_cabmen v_readCabmen v_acts v_seen v_seed r.2.2.1 r.2.2.2.1 r.2.2.2.2.1 v_underMany v_underLeast v_restMany v_restFirst v_layer v_cabman v_page r.2.2.2.2.2)) hr) hP hD hS d_PM_best_17
  exact E _ _ hP hS
set_option maxHeartbeats 4000000 in
set_option maxRecDepth 100000 in
theorem c_PM_findStrokes (l : Launch) (D : va_G) (cI cZ : ClassId) (a_p0 a_layer a_cabman a_page a_shows z_text z_readLayer z_readCabman z_trial z_book z_kept z_isKept z_seenCabman z_seenFinger z_seenOff z_seenCame z_value : Nat) (i1 : Int32) (v_thrown : Int32) (v_textSize : Int32) (v_place : Int32) (v_cabmen : Int32) (v_readCabmen : Int32) (v_acts : Int32) (v_seen : Int32) (v_seed : Int64) (v_bestCleaning : Int32) (v_bestLayers : Int32) (v_bestMany : Int32) (v_underMany : Int32) (v_underLeast : Int32) (v_restMany : Int32) (v_restFirst : Int32) (v_layer : Nat → Int32) (v_cabman : Nat → Int32) (v_page : Nat → Int32) (v_shows : Nat → Int32) (res : Int32 × Int32 × (Nat → Int32)) (hf : f_PM_findStrokes i1 v_cabmen v_layer v_cabman v_page v_bestCleaning v_bestLayers v_shows = some res) : CtV l y_PM_findStrokes b_PM_findStrokes 4 none 3 D cI cZ [.ref a_p0, .int i1] (cs_PM_findStrokes cI cZ a_p0 a_layer a_cabman a_page a_shows z_text z_readLayer z_readCabman z_trial z_book z_kept z_isKept z_seenCabman z_seenFinger z_seenOff z_seenCame z_value v_thrown v_textSize v_place v_cabmen v_readCabmen v_acts v_seen v_seed v_bestCleaning v_bestLayers v_bestMany v_underMany v_underLeast v_restMany v_restFirst v_layer v_cabman v_page v_shows) (cs_PM_findStrokes cI cZ a_p0 a_layer a_cabman a_page a_shows z_text z_readLayer z_readCabman z_trial z_book z_kept z_isKept z_seenCabman z_seenFinger z_seenOff z_seenCame z_value v_thrown v_textSize v_place v_cabmen v_readCabmen v_acts v_seen v_seed res.1 res.2.1 v_bestMany v_underMany v_underLeast v_restMany v_restFirst v_layer v_cabman v_page res.2.2) := by
  refine CtV_mk (by decide) (Nat.le_of_ble_eq_true rfl) ?_
  intro p e s m args below meth c A Q hC hA hP hD RET ls hl
  have hC : Cx p s m args meth c b_PM_findStrokes 4 R_PM D cI cZ := hC
  have hl : lv_has ls 4 [(0, .ref a_p0), (1, .int i1)] := hl
  obtain ⟨hx, hb, hml, hown, hts, hlk, hKK⟩ := id hC
  have hS : va_S A s.heap s.heap [] := va_S.rf
  have B_105 : ∀ (back_14 : Int32 → Int32 → Int32 → Int32 → (Nat → Int32) → Option (Int32 × Int32 × (Nat → Int32))) (K_14 : ∀ (x1 : Int32) (x2 : Int32) (v_bestCleaning : Int32) (v_bestLayers : Int32) (v_shows : Nat → Int32) (H : Heap) (locs : List Loc) (ls : Array Slot), va_P D classes (cs_PM_findStrokes cI cZ a_p0 a_layer a_cabman a_page a_shows z_text z_readLayer z_readCabman z_trial z_book z_kept z_isKept z_seenCabman z_seenFinger z_seenOff z_seenCame z_value v_thrown v_textSize v_place v_cabmen v_readCabmen v_acts v_seen v_seed v_bestCleaning v_bestLayers v_bestMany v_underMany v_underLeast v_restMany v_restFirst v_layer v_cabman v_page v_shows) H → va_D A (cs_PM_findStrokes cI cZ a_p0 a_layer a_cabman a_page a_shows z_text z_readLayer z_readCabman z_trial z_book z_kept z_isKept z_seenCabman z_seenFinger z_seenOff z_seenCame z_value v_thrown v_textSize v_place v_cabmen v_readCabmen v_acts v_seen v_seed v_bestCleaning v_bestLayers v_bestMany v_underMany v_underLeast v_restMany v_restFirst v_layer v_cabman v_page v_shows) → va_S A s.heap H locs → lv_has ls 4 [(0, .ref a_p0), (1, .int x1), (2, .int x2)] → back_14 x1 x2 v_bestCleaning v_bestLayers v_shows = some res → W p l e (rm_ 3 (40 * 3)) s m args below meth c H locs 0 0 Q (F0 m 14 ls [])) (x1 : Int32) (x2 : Int32) (v_bestCleaning : Int32) (v_bestLayers : Int32) (v_shows : Nat → Int32) (H : Heap) (locs : List Loc) (ls : Array Slot), va_P D classes (cs_PM_findStrokes cI cZ a_p0 a_layer a_cabman a_page a_shows z_text z_readLayer z_readCabman z_trial z_book z_kept z_isKept z_seenCabman z_seenFinger z_seenOff z_seenCame z_value v_thrown v_textSize v_place v_cabmen v_readCabmen v_acts v_seen v_seed v_bestCleaning v_bestLayers v_bestMany v_underMany v_underLeast v_restMany v_restFirst v_layer v_cabman v_page v_shows) H → va_D A (cs_PM_findStrokes cI cZ a_p0 a_layer a_cabman a_page a_shows z_text z_readLayer z_readCabman z_trial z_book z_kept z_isKept z_seenCabman z_seenFinger z_seenOff z_seenCame z_value v_thrown v_textSize v_place v_cabmen v_readCabmen v_acts v_seen v_seed v_bestCleaning v_bestLayers v_bestMany v_underMany v_underLeast v_restMany v_restFirst v_layer v_cabman v_page v_shows) → va_S A s.heap H locs → lv_has ls 4 [(0, .ref a_p0), (1, .int x1), (2, .int x2)] → f_PM_findStrokes_105 back_14 v_cabmen v_layer v_cabman v_page x1 x2 v_bestCleaning v_bestLayers v_shows = some res → W p l e (rm_ 3 (40 * 3)) s m args below meth c H locs 0 0 Q (F0 m 105 ls []) := by
    intro back_14 K_14 x1 x2 v_bestCleaning v_bestLayers v_shows H locs ls hP hD hS hl hf
    unfold f_PM_findStrokes_105 at hf
    refine lv_iinc (v := x2 + 1) (lv' := [(2, .int (x2 + 1)), (0, .ref a_p0), (1, .int x1)]) hx hb d_PM_findStrokes_105 hl (k := 2) rfl (rfl) (by decide) rfl (fun ls hl => ?_)
    refine lv_goto (tgt := 14) hx hb d_PM_findStrokes_108 (by decide) ?_
    exact K_14 x1 (x2 + 1) v_bestCleaning v_bestLayers v_shows _ _ _ hP hD hS (lv_sub hl [1, 2, 0] rfl) hf
  have B_89 : ∀ (back_14 : Int32 → Int32 → Int32 → Int32 → (Nat → Int32) → Option (Int32 × Int32 × (Nat → Int32))) (K_14 : ∀ (x1 : Int32) (x2 : Int32) (v_bestCleaning : Int32) (v_bestLayers : Int32) (v_shows : Nat → Int32) (H : Heap) (locs : List Loc) (ls : Array Slot), va_P D classes (cs_PM_findStrokes cI cZ a_p0 a_layer a_cabman a_page a_shows z_text z_readLayer z_readCabman z_trial z_book z_kept z_isKept z_seenCabman z_seenFinger z_seenOff z_seenCame z_value v_thrown v_textSize v_place v_cabmen v_readCabmen v_acts v_seen v_seed v_bestCleaning v_bestLayers v_bestMany v_underMany v_underLeast v_restMany v_restFirst v_layer v_cabman v_page v_shows) H → va_D A (cs_PM_findStrokes cI cZ a_p0 a_layer a_cabman a_page a_shows z_text z_readLayer z_readCabman z_trial z_book z_kept z_isKept z_seenCabman z_seenFinger z_seenOff z_seenCame z_value v_thrown v_textSize v_place v_cabmen v_readCabmen v_acts v_seen v_seed v_bestCleaning v_bestLayers v_bestMany v_underMany v_underLeast v_restMany v_restFirst v_layer v_cabman v_page v_shows) → va_S A s.heap H locs → lv_has ls 4 [(0, .ref a_p0), (1, .int x1), (2, .int x2)] → back_14 x1 x2 v_bestCleaning v_bestLayers v_shows = some res → W p l e (rm_ 3 (40 * 3)) s m args below meth c H locs 0 0 Q (F0 m 14 ls [])) (x1 : Int32) (x2 : Int32) (v_bestCleaning : Int32) (v_bestLayers : Int32) (v_shows : Nat → Int32) (H : Heap) (locs : List Loc) (ls : Array Slot), va_P D classes (cs_PM_findStrokes cI cZ a_p0 a_layer a_cabman a_page a_shows z_text z_readLayer z_readCabman z_trial z_book z_kept z_isKept z_seenCabman z_seenFinger z_seenOff z_seenCame z_value v_thrown v_textSize v_place v_cabmen v_readCabmen v_acts v_seen v_seed v_bestCleaning v_bestLayers v_bestMany v_underMany v_underLeast v_restMany v_restFirst v_layer v_cabman v_page v_shows) H → va_D A (cs_PM_findStrokes cI cZ a_p0 a_layer a_cabman a_page a_shows z_text z_readLayer z_readCabman z_trial z_book z_kept z_isKept z_seenCabman z_seenFinger z_seenOff z_seenCame z_value v_thrown v_textSize v_place v_cabmen v_readCabmen v_acts v_seen v_seed v_bestCleaning v_bestLayers v_bestMany v_underMany v_underLeast v_restMany v_restFirst v_layer v_cabman v_page v_shows) → va_S A s.heap H locs → lv_has ls 4 [(0, .ref a_p0), (1, .int x1), (2, .int x2)] → f_PM_findStrokes_89 back_14 v_cabmen v_layer v_cabman v_page x1 x2 v_bestCleaning v_bestLayers v_shows = some res → W p l e (rm_ 3 (40 * 3)) s m args below meth c H locs 0 0 Q (F0 m 89 ls []) := by
    intro back_14 K_14 x1 x2 v_bestCleaning v_bestLayers v_shows H locs ls hP hD hS hl hf
    unfold f_PM_findStrokes_89 at hf
    refine lv_aload_n hx hb d_PM_findStrokes_89 rfl (lv_at hl 0 rfl) ?_
    refine lv_iload_n hx hb d_PM_findStrokes_90 rfl (lv_at hl 2 rfl) ?_
    obtain ⟨r1, h2, hf⟩ := o_bind hf
    refine cSi0 (rest := [.ref a_p0]) (c_PM_figuresOf l D cI cZ x2 r1 h2) hC hA hP hD hS hl.1 cw_PM_159 ⟨Nat.le_of_ble_eq_true rfl, Nat.le_of_ble_eq_true rfl⟩ rfl rfl (Nat.le_of_ble_eq_true rfl) d_PM_findStrokes_91 ⟨Nat.zero_le _, Nat.zero_le _⟩ (fun H locs hP hS => ?_)
    refine pf_PM_171 hC hP hD hS 0 rfl (Nat.le_of_ble_eq_true rfl) d_PM_findStrokes_94 (fun H locs hP hD hS => ?_)
    have hP : va_P D classes (cs_PM_findStrokes cI cZ a_p0 a_layer a_cabman a_page a_shows z_text z_readLayer z_readCabman z_trial z_book z_kept z_isKept z_seenCabman z_seenFinger z_seenOff z_seenCame z_value v_thrown v_textSize v_place v_cabmen v_readCabmen v_acts v_seen v_seed r1 v_bestLayers v_bestMany v_underMany v_underLeast v_restMany v_restFirst v_layer v_cabman v_page v_shows) H := hP
    have hD : va_D A (cs_PM_findStrokes cI cZ a_p0 a_layer a_cabman a_page a_shows z_text z_readLayer z_readCabman z_trial z_book z_kept z_isKept z_seenCabman z_seenFinger z_seenOff z_seenCame z_value v_thrown v_textSize v_place v_cabmen v_readCabmen v_acts v_seen v_seed r1 v_bestLayers v_bestMany v_underMany v_underLeast v_restMany v_restFirst v_layer v_cabman v_page v_shows) := hD
    refine lv_aload_n hx hb d_PM_findStrokes_97 rfl (lv_at hl 0 rfl) ?_
    refine lv_iload_n hx hb d_PM_findStrokes_98 rfl (lv_at hl 2 rfl) ?_
    obtain ⟨r3, h4, hf⟩ := o_bind hf
    refine cSi0 (rest := [.ref a_p0]) (c_PM_layersOf l D cI cZ x2 r3 h4) hC hA hP hD hS hl.1 cw_PM_165 ⟨Nat.le_of_ble_eq_true rfl, Nat.le_of_ble_eq_true rfl⟩ rfl rfl (Nat.le_of_ble_eq_true rfl) d_PM_findStrokes_99 ⟨Nat.zero_le _, Nat.zero_le _⟩ (fun H locs hP hS => ?_)
    refine pf_PM_168 hC hP hD hS 0 rfl (Nat.le_of_ble_eq_true rfl) d_PM_findStrokes_102 (fun H locs hP hD hS => ?_)
    have hP : va_P D classes (cs_PM_findStrokes cI cZ a_p0 a_layer a_cabman a_page a_shows z_text z_readLayer z_readCabman z_trial z_book z_kept z_isKept z_seenCabman z_seenFinger z_seenOff z_seenCame z_value v_thrown v_textSize v_place v_cabmen v_readCabmen v_acts v_seen v_seed r1 r3 v_bestMany v_underMany v_underLeast v_restMany v_restFirst v_layer v_cabman v_page v_shows) H := hP
    have hD : va_D A (cs_PM_findStrokes cI cZ a_p0 a_layer a_cabman a_page a_shows z_text z_readLayer z_readCabman z_trial z_book z_kept z_isKept z_seenCabman z_seenFinger z_seenOff z_seenCame z_value v_thrown v_textSize v_place v_cabmen v_readCabmen v_acts v_seen v_seed r1 r3 v_bestMany v_underMany v_underLeast v_restMany v_restFirst v_layer v_cabman v_page v_shows) := hD
    exact B_105 back_14 K_14 x1 x2 r1 r3 v_shows _ _ _ hP hD hS (lv_sub hl [0, 1, 2] rfl) hf
  have B_45 : ∀ (back_14 : Int32 → Int32 → Int32 → Int32 → (Nat → Int32) → Option (Int32 × Int32 × (Nat → Int32))) (K_14 : ∀ (x1 : Int32) (x2 : Int32) (v_bestCleaning : Int32) (v_bestLayers : Int32) (v_shows : Nat → Int32) (H : Heap) (locs : List Loc) (ls : Array Slot), va_P D classes (cs_PM_findStrokes cI cZ a_p0 a_layer a_cabman a_page a_shows z_text z_readLayer z_readCabman z_trial z_book z_kept z_isKept z_seenCabman z_seenFinger z_seenOff z_seenCame z_value v_thrown v_textSize v_place v_cabmen v_readCabmen v_acts v_seen v_seed v_bestCleaning v_bestLayers v_bestMany v_underMany v_underLeast v_restMany v_restFirst v_layer v_cabman v_page v_shows) H → va_D A (cs_PM_findStrokes cI cZ a_p0 a_layer a_cabman a_page a_shows z_text z_readLayer z_readCabman z_trial z_book z_kept z_isKept z_seenCabman z_seenFinger z_seenOff z_seenCame z_value v_thrown v_textSize v_place v_cabmen v_readCabmen v_acts v_seen v_seed v_bestCleaning v_bestLayers v_bestMany v_underMany v_underLeast v_restMany v_restFirst v_layer v_cabman v_page v_shows) → va_S A s.heap H locs → lv_has ls 4 [(0, .ref a_p0), (1, .int x1), (2, .int x2)] → back_14 x1 x2 v_bestCleaning v_bestLayers v_shows = some res → W p l e (rm_ 3 (40 * 3)) s m args below meth c H locs 0 0 Q (F0 m 14 ls [])) (x1 : Int32) (x2 : Int32) (w0 : Int32) (v_bestCleaning : Int32) (v_bestLayers : Int32) (v_shows : Nat → Int32) (H : Heap) (locs : List Loc) (ls : Array Slot), va_P D classes (cs_PM_findStrokes cI cZ a_p0 a_layer a_cabman a_page a_shows z_text z_readLayer z_readCabman z_trial z_book z_kept z_isKept z_seenCabman z_seenFinger z_seenOff z_seenCame z_value v_thrown v_textSize v_place v_cabmen v_readCabmen v_acts v_seen v_seed v_bestCleaning v_bestLayers v_bestMany v_underMany v_underLeast v_restMany v_restFirst v_layer v_cabman v_page v_shows) H → va_D A (cs_PM_findStrokes cI cZ a_p0 a_layer a_cabman a_page a_shows z_text z_readLayer z_readCabman z_trial z_book z_kept z_isKept z_seenCabman z_seenFinger z_seenOff z_seenCame z_value v_thrown v_textSize v_place v_cabmen v_readCabmen v_acts v_seen v_seed v_bestCleaning v_bestLayers v_bestMany v_underMany v_underLeast v_restMany v_restFirst v_layer v_cabman v_page v_shows) → va_S A s.heap H locs → lv_has ls 4 [(0, .ref a_p0), (1, .int x1), (2, .int x2)] → f_PM_findStrokes_45 back_14 v_cabmen v_layer v_cabman v_page x1 x2 w0 v_bestCleaning v_bestLayers v_shows = some res → W p l e (rm_ 3 (40 * 3)) s m args below meth c H locs 0 0 Q (F0 m 45 ls [.int w0]) := by
    intro back_14 K_14 x1 x2 w0 v_bestCleaning v_bestLayers v_shows H locs ls hP hD hS hl hf
    unfold f_PM_findStrokes_45 at hf
    refine lv_istore_n (lv' := [(3, .int w0), (0, .ref a_p0), (1, .int x1), (2, .int x2)]) hx hb d_PM_findStrokes_45 rfl hl (by decide) rfl (fun ls hl => ?_)
    refine lv_iload_n hx hb d_PM_findStrokes_46 rfl (lv_at hl 0 rfl) ?_
    refine lv_if_eq (tgt := 105) hx hb d_PM_findStrokes_47 (by decide) (fun c1 => ?_) (fun c1 => ?_)
    · have hf := o_pos c1 hf
      exact B_105 back_14 K_14 x1 x2 v_bestCleaning v_bestLayers v_shows _ _ _ hP hD hS (lv_sub hl [1, 2, 3] rfl) hf
    · have hf := o_neg c1 hf
      refine lv_aload_n hx hb d_PM_findStrokes_50 rfl (lv_at hl 1 rfl) ?_
      refine lv_iload_n hx hb d_PM_findStrokes_51 rfl (lv_at hl 3 rfl) ?_
      obtain ⟨r2, h3, hf⟩ := o_bind hf
      refine cSi0 (rest := [.ref a_p0]) (c_PM_figuresOf l D cI cZ x2 r2 h3) hC hA hP hD hS hl.1 cw_PM_159 ⟨Nat.le_of_ble_eq_true rfl, Nat.le_of_ble_eq_true rfl⟩ rfl rfl (Nat.le_of_ble_eq_true rfl) d_PM_findStrokes_52 ⟨Nat.zero_le _, Nat.zero_le _⟩ (fun H locs hP hS => ?_)
      obtain ⟨r4, h5, hf⟩ := o_bind hf
      refine cVi (rest := []) (wr := [(a_cabman, .inl (cI, 30, .inl v_cabman))]) (wn := (cs_PM_findStrokes cI cZ a_p0 a_layer a_cabman a_page a_shows z_text z_readLayer z_readCabman z_trial z_book z_kept z_isKept z_seenCabman z_seenFinger z_seenOff z_seenCame z_value v_thrown v_textSize v_place v_cabmen v_readCabmen v_acts v_seen v_seed v_bestCleaning v_bestLayers v_bestMany v_underMany v_underLeast v_restMany v_restFirst v_layer v_cabman v_page r4.2)) (c_PM_layCleaning l D cI cZ a_p0 a_layer a_page a_shows z_text a_cabman z_readLayer z_readCabman z_trial z_book z_kept z_isKept z_seenCabman z_seenFinger z_seenOff z_seenCame z_value r2 v_thrown v_textSize v_place v_cabmen v_readCabmen v_acts v_seen v_seed v_bestCleaning v_bestLayers v_bestMany v_underMany v_underLeast v_restMany v_restFirst v_layer v_page v_shows r4 h5) hC hA hP hD hS hl.1 cw_PM_153 0 rfl rfl rfl ⟨Nat.le_of_ble_eq_true rfl, Nat.le_of_ble_eq_true rfl⟩ rfl rfl (Nat.le_of_ble_eq_true rfl) d_PM_findStrokes_55 ⟨Nat.zero_le _, Nat.zero_le _⟩ [0, 1, 3, 4] [2] [1, 2, 0, 3, 4] (by decide) (Cut_mk rfl rfl (by decide) (by decide) (by decide) rfl) (fun H locs hP hD hS => ?_)
      refine lv_if_eq (tgt := 105) hx hb d_PM_findStrokes_58 (by decide) (fun c6 => ?_) (fun c6 => ?_)
      · have hf := o_pos c6 hf
        exact B_105 back_14 K_14 x1 x2 v_bestCleaning v_bestLayers r4.2 _ _ _ hP hD hS (lv_sub hl [1, 2, 3] rfl) hf
      · have hf := o_neg c6 hf
        refine lv_iload_n hx hb d_PM_findStrokes_61 rfl (lv_at hl 2 rfl) ?_
        refine lv_bipush (v := (-9)) hx hb d_PM_findStrokes_62 (by decide) ?_
        refine lv_icmp_ne (tgt := 79) hx hb d_PM_findStrokes_64 (by decide) (fun c7 => ?_) (fun c7 => ?_)
        · have hf := o_neg c7 hf
          refine lv_aload_n hx hb d_PM_findStrokes_79 rfl (lv_at hl 1 rfl) ?_
          refine lv_iload_n hx hb d_PM_findStrokes_80 rfl (lv_at hl 2 rfl) ?_
          refine lv_bipush (v := 15) hx hb d_PM_findStrokes_81 (by decide) ?_
          obtain ⟨r8, h9, hf⟩ := o_bind hf
          refine cVi (rest := []) (wr := [(a_layer, .inl (cI, 12, .inl v_layer)), (a_page, .inl (cI, 16, .inl v_page))]) (wn := (cs_PM_findStrokes cI cZ a_p0 a_layer a_cabman a_page a_shows z_text z_readLayer z_readCabman z_trial z_book z_kept z_isKept z_seenCabman z_seenFinger z_seenOff z_seenCame z_value v_thrown v_textSize v_place v_cabmen v_readCabmen v_acts v_seen v_seed v_bestCleaning v_bestLayers v_bestMany v_underMany v_underLeast v_restMany v_restFirst v_layer v_cabman v_page r4.2)) (c_PM_isCalled l D cI cZ a_p0 a_cabman a_shows z_text a_layer z_readLayer z_readCabman a_page z_trial z_book z_kept z_isKept z_seenCabman z_seenFinger z_seenOff z_seenCame z_value x1 15 v_thrown v_textSize v_place v_cabmen v_readCabmen v_acts v_seen v_seed v_bestCleaning v_bestLayers v_bestMany v_underMany v_underLeast v_restMany v_restFirst v_cabman r4.2 r8 h9) hC hA hP hD hS hl.1 cw_PM_109 0 rfl rfl rfl ⟨Nat.le_of_ble_eq_true rfl, Nat.le_of_ble_eq_true rfl⟩ rfl rfl (Nat.le_of_ble_eq_true rfl) d_PM_findStrokes_83 ⟨Nat.zero_le _, Nat.zero_le _⟩ [0, 2, 4] [1, 3] [2, 0, 3, 1, 4] (by decide) (Cut_mk rfl rfl (by decide) (by decide) (by decide) rfl) (fun H locs hP hD hS => ?_)
          refine lv_if_eq (tgt := 105) hx hb d_PM_findStrokes_86 (by decide) (fun c10 => ?_) (fun c10 => ?_)
          · have hf := o_pos c10 hf
            exact B_105 back_14 K_14 x1 x2 v_bestCleaning v_bestLayers r4.2 _ _ _ hP hD hS (lv_sub hl [1, 2, 3] rfl) hf
          · have hf := o_neg c10 hf
            exact B_89 back_14 K_14 x1 x2 v_bestCleaning v_bestLayers r4.2 _ _ _ hP hD hS (lv_sub hl [1, 2, 3] rfl) hf
        · have hf := o_pos c7 hf
          refine lv_aload_n hx hb d_PM_findStrokes_67 rfl (lv_at hl 1 rfl) ?_
          refine lv_bipush (v := 15) hx hb d_PM_findStrokes_68 (by decide) ?_
          obtain ⟨r11, h12, hf⟩ := o_bind hf
          refine cVi (rest := []) (wr := [(a_layer, .inl (cI, 12, .inl v_layer)), (a_page, .inl (cI, 16, .inl v_page))]) (wn := (cs_PM_findStrokes cI cZ a_p0 a_layer a_cabman a_page a_shows z_text z_readLayer z_readCabman z_trial z_book z_kept z_isKept z_seenCabman z_seenFinger z_seenOff z_seenCame z_value v_thrown v_textSize v_place v_cabmen v_readCabmen v_acts v_seen v_seed v_bestCleaning v_bestLayers v_bestMany v_underMany v_underLeast v_restMany v_restFirst v_layer v_cabman v_page r4.2)) (c_PM_calledOf l D cI cZ a_p0 a_cabman a_shows z_text a_layer z_readLayer z_readCabman a_page z_trial z_book z_kept z_isKept z_seenCabman z_seenFinger z_seenOff z_seenCame z_value 15 v_thrown v_textSize v_place v_cabmen v_readCabmen v_acts v_seen v_seed v_bestCleaning v_bestLayers v_bestMany v_underMany v_underLeast v_restMany v_restFirst v_cabman r4.2 r11 h12) hC hA hP hD hS hl.1 cw_PM_120 0 rfl rfl rfl ⟨Nat.le_of_ble_eq_true rfl, Nat.le_of_ble_eq_true rfl⟩ rfl rfl (Nat.le_of_ble_eq_true rfl) d_PM_findStrokes_70 ⟨Nat.zero_le _, Nat.zero_le _⟩ [0, 2, 4] [1, 3] [2, 0, 3, 1, 4] (by decide) (Cut_mk rfl rfl (by decide) (by decide) (by decide) rfl) (fun H locs hP hD hS => ?_)
          refine lv_if_ne (tgt := 105) hx hb d_PM_findStrokes_73 (by decide) (fun c13 => ?_) (fun c13 => ?_)
          · have hf := o_neg c13 hf
            exact B_105 back_14 K_14 x1 x2 v_bestCleaning v_bestLayers r4.2 _ _ _ hP hD hS (lv_sub hl [1, 2, 3] rfl) hf
          · have hf := o_pos c13 hf
            refine lv_goto (tgt := 89) hx hb d_PM_findStrokes_76 (by decide) ?_
            exact B_89 back_14 K_14 x1 x2 v_bestCleaning v_bestLayers r4.2 _ _ _ hP hD hS (lv_sub hl [1, 2, 3] rfl) hf
  have B_40 : ∀ (back_14 : Int32 → Int32 → Int32 → Int32 → (Nat → Int32) → Option (Int32 × Int32 × (Nat → Int32))) (K_14 : ∀ (x1 : Int32) (x2 : Int32) (v_bestCleaning : Int32) (v_bestLayers : Int32) (v_shows : Nat → Int32) (H : Heap) (locs : List Loc) (ls : Array Slot), va_P D classes (cs_PM_findStrokes cI cZ a_p0 a_layer a_cabman a_page a_shows z_text z_readLayer z_readCabman z_trial z_book z_kept z_isKept z_seenCabman z_seenFinger z_seenOff z_seenCame z_value v_thrown v_textSize v_place v_cabmen v_readCabmen v_acts v_seen v_seed v_bestCleaning v_bestLayers v_bestMany v_underMany v_underLeast v_restMany v_restFirst v_layer v_cabman v_page v_shows) H → va_D A (cs_PM_findStrokes cI cZ a_p0 a_layer a_cabman a_page a_shows z_text z_readLayer z_readCabman z_trial z_book z_kept z_isKept z_seenCabman z_seenFinger z_seenOff z_seenCame z_value v_thrown v_textSize v_place v_cabmen v_readCabmen v_acts v_seen v_seed v_bestCleaning v_bestLayers v_bestMany v_underMany v_underLeast v_restMany v_restFirst v_layer v_cabman v_page v_shows) → va_S A s.heap H locs → lv_has ls 4 [(0, .ref a_p0), (1, .int x1), (2, .int x2)] → back_14 x1 x2 v_bestCleaning v_bestLayers v_shows = some res → W p l e (rm_ 3 (40 * 3)) s m args below meth c H locs 0 0 Q (F0 m 14 ls [])) (x1 : Int32) (x2 : Int32) (v_bestCleaning : Int32) (v_bestLayers : Int32) (v_shows : Nat → Int32) (H : Heap) (locs : List Loc) (ls : Array Slot), va_P D classes (cs_PM_findStrokes cI cZ a_p0 a_layer a_cabman a_page a_shows z_text z_readLayer z_readCabman z_trial z_book z_kept z_isKept z_seenCabman z_seenFinger z_seenOff z_seenCame z_value v_thrown v_textSize v_place v_cabmen v_readCabmen v_acts v_seen v_seed v_bestCleaning v_bestLayers v_bestMany v_underMany v_underLeast v_restMany v_restFirst v_layer v_cabman v_page v_shows) H → va_D A (cs_PM_findStrokes cI cZ a_p0 a_layer a_cabman a_page a_shows z_text z_readLayer z_readCabman z_trial z_book z_kept z_isKept z_seenCabman z_seenFinger z_seenOff z_seenCame z_value v_thrown v_textSize v_place v_cabmen v_readCabmen v_acts v_seen v_seed v_bestCleaning v_bestLayers v_bestMany v_underMany v_underLeast v_restMany v_restFirst v_layer v_cabman v_page v_shows) → va_S A s.heap H locs → lv_has ls 4 [(0, .ref a_p0), (1, .int x1), (2, .int x2)] → f_PM_findStrokes_40 back_14 v_cabmen v_layer v_cabman v_page x1 x2 v_bestCleaning v_bestLayers v_shows = some res → W p l e (rm_ 3 (40 * 3)) s m args below meth c H locs 0 0 Q (F0 m 40 ls []) := by
    intro back_14 K_14 x1 x2 v_bestCleaning v_bestLayers v_shows H locs ls hP hD hS hl hf
    unfold f_PM_findStrokes_40 at hf
    refine lv_iconst (v := 1) hx hb d_PM_findStrokes_40 (by decide) ?_
    refine lv_goto (tgt := 45) hx hb d_PM_findStrokes_41 (by decide) ?_
    exact B_45 back_14 K_14 x1 x2 1 v_bestCleaning v_bestLayers v_shows _ _ _ hP hD hS (lv_sub hl [0, 1, 2] rfl) hf
  have B_14 : ∀  (n : Nat) (x1 : Int32) (x2 : Int32) (v_bestCleaning : Int32) (v_bestLayers : Int32) (v_shows : Nat → Int32) (H : Heap) (locs : List Loc) (ls : Array Slot), va_P D classes (cs_PM_findStrokes cI cZ a_p0 a_layer a_cabman a_page a_shows z_text z_readLayer z_readCabman z_trial z_book z_kept z_isKept z_seenCabman z_seenFinger z_seenOff z_seenCame z_value v_thrown v_textSize v_place v_cabmen v_readCabmen v_acts v_seen v_seed v_bestCleaning v_bestLayers v_bestMany v_underMany v_underLeast v_restMany v_restFirst v_layer v_cabman v_page v_shows) H → va_D A (cs_PM_findStrokes cI cZ a_p0 a_layer a_cabman a_page a_shows z_text z_readLayer z_readCabman z_trial z_book z_kept z_isKept z_seenCabman z_seenFinger z_seenOff z_seenCame z_value v_thrown v_textSize v_place v_cabmen v_readCabmen v_acts v_seen v_seed v_bestCleaning v_bestLayers v_bestMany v_underMany v_underLeast v_restMany v_restFirst v_layer v_cabman v_page v_shows) → va_S A s.heap H locs → lv_has ls 4 [(0, .ref a_p0), (1, .int x1), (2, .int x2)] → f_PM_findStrokes_14  v_cabmen v_layer v_cabman v_page n x1 x2 v_bestCleaning v_bestLayers v_shows = some res → W p l e (rm_ 3 (40 * 3)) s m args below meth c H locs 0 0 Q (F0 m 14 ls []) := by
    intro  n
    induction n with
    | zero => intro x1 x2 v_bestCleaning v_bestLayers v_shows H locs ls hP hD hS hl hf; exact nomatch hf
    | succ n ih =>
      intro x1 x2 v_bestCleaning v_bestLayers v_shows H locs ls hP hD hS hl hf
      have hf : f_PM_findStrokes_14_b  (f_PM_findStrokes_14  v_cabmen v_layer v_cabman v_page n) v_cabmen v_layer v_cabman v_page x1 x2 v_bestCleaning v_bestLayers v_shows = some res := hf
      generalize f_PM_findStrokes_14  v_cabmen v_layer v_cabman v_page n = back_14 at ih hf
      have K_14 := ih
      unfold f_PM_findStrokes_14_b at hf
      refine lv_iload_n hx hb d_PM_findStrokes_14 rfl (lv_at hl 2 rfl) ?_
      refine lv_bipush (v := 81) hx hb d_PM_findStrokes_15 (by decide) ?_
      refine lv_icmp_ge (tgt := 111) hx hb d_PM_findStrokes_17 (by decide) (fun c1 => ?_) (fun c1 => ?_)
      · have hf := o_pos c1 hf
        have hr := Option.some.inj hf
        exact RET _ _ _ _ _ (congrArg (fun r : Int32 × Int32 × (Nat → Int32) => (cs_PM_findStrokes cI cZ a_p0 a_layer a_cabman a_page a_shows z_text z_readLayer z_readCabman z_trial z_book z_kept z_isKept z_seenCabman z_seenFinger z_seenOff z_seenCame z_value v_thrown v_textSize v_place v_cabmen v_readCabmen v_acts v_seen v_seed r.1 r.2.1 v_bestMany v_underMany v_underLeast v_restMany v_restFirst v_layer v_cabman v_page r.2.2)) hr) hP hD hS d_PM_findStrokes_111
      · have hf := o_neg c1 hf
        refine lv_aload_n hx hb d_PM_findStrokes_20 rfl (lv_at hl 0 rfl) ?_
        refine gf_PM_171 hC hP 0 rfl rfl d_PM_findStrokes_21 ?_
        refine lv_bipush (v := (-9)) hx hb d_PM_findStrokes_24 (by decide) ?_
        refine lv_icmp_eq (tgt := 40) hx hb d_PM_findStrokes_26 (by decide) (fun c2 => ?_) (fun c2 => ?_)
        · have hf := o_pos c2 hf
          exact B_40 back_14 K_14 x1 x2 v_bestCleaning v_bestLayers v_shows _ _ _ hP hD hS (lv_sub hl [0, 1, 2] rfl) hf
        · have hf := o_neg c2 hf
          refine lv_iload_n hx hb d_PM_findStrokes_29 rfl (lv_at hl 2 rfl) ?_
          obtain ⟨r3, h4, hf⟩ := o_bind hf
          refine cSi0 (rest := []) (c_PM_layersOf l D cI cZ x2 r3 h4) hC hA hP hD hS hl.1 cw_PM_165 ⟨Nat.le_of_ble_eq_true rfl, Nat.le_of_ble_eq_true rfl⟩ rfl rfl (Nat.le_of_ble_eq_true rfl) d_PM_findStrokes_30 ⟨Nat.zero_le _, Nat.zero_le _⟩ (fun H locs hP hS => ?_)
          refine lv_aload_n hx hb d_PM_findStrokes_33 rfl (lv_at hl 0 rfl) ?_
          refine gf_PM_168 hC hP 0 rfl rfl d_PM_findStrokes_34 ?_
          refine lv_icmp_ge (tgt := 44) hx hb d_PM_findStrokes_37 (by decide) (fun c5 => ?_) (fun c5 => ?_)
          · have hf := o_pos c5 hf
            refine lv_iconst (v := 0) hx hb d_PM_findStrokes_44 (by decide) ?_
            exact B_45 back_14 K_14 x1 x2 0 v_bestCleaning v_bestLayers v_shows _ _ _ hP hD hS (lv_sub hl [0, 1, 2] rfl) hf
          · have hf := o_neg c5 hf
            exact B_40 back_14 K_14 x1 x2 v_bestCleaning v_bestLayers v_shows _ _ _ hP hD hS (lv_sub hl [0, 1, 2] rfl) hf
  unfold f_PM_findStrokes at hf
  have E : ∀ (H : Heap) (locs : List Loc), va_P D classes (cs_PM_findStrokes cI cZ a_p0 a_layer a_cabman a_page a_shows z_text z_readLayer z_readCabman z_trial z_book z_kept z_isKept z_seenCabman z_seenFinger z_seenOff z_seenCame z_value v_thrown v_textSize v_place v_cabmen v_readCabmen v_acts v_seen v_seed v_bestCleaning v_bestLayers v_bestMany v_underMany v_underLeast v_restMany v_restFirst v_layer v_cabman v_page v_shows) H → va_S A s.heap H locs → W p l e (rm_ 3 (40 * 3)) s m args below meth c H locs 0 0 Q (F0 m 0 ls []) := by
    intro H locs hP hS
    refine lv_aload_n hx hb d_PM_findStrokes_0 rfl (lv_at hl 0 rfl) ?_
    refine lv_bipush (v := (-9)) hx hb d_PM_findStrokes_1 (by decide) ?_
    refine pf_PM_171 hC hP hD hS 0 rfl (Nat.le_of_ble_eq_true rfl) d_PM_findStrokes_3 (fun H locs hP hD hS => ?_)
    have hP : va_P D classes (cs_PM_findStrokes cI cZ a_p0 a_layer a_cabman a_page a_shows z_text z_readLayer z_readCabman z_trial z_book z_kept z_isKept z_seenCabman z_seenFinger z_seenOff z_seenCame z_value v_thrown v_textSize v_place v_cabmen v_readCabmen v_acts v_seen v_seed ((-9)) v_bestLayers v_bestMany v_underMany v_underLeast v_restMany v_restFirst v_layer v_cabman v_page v_shows) H := hP
    have hD : va_D A (cs_PM_findStrokes cI cZ a_p0 a_layer a_cabman a_page a_shows z_text z_readLayer z_readCabman z_trial z_book z_kept z_isKept z_seenCabman z_seenFinger z_seenOff z_seenCame z_value v_thrown v_textSize v_place v_cabmen v_readCabmen v_acts v_seen v_seed ((-9)) v_bestLayers v_bestMany v_underMany v_underLeast v_restMany v_restFirst v_layer v_cabman v_page v_shows) := hD
    refine lv_aload_n hx hb d_PM_findStrokes_6 rfl (lv_at hl 0 rfl) ?_
    refine lv_bipush (v := (-9)) hx hb d_PM_findStrokes_7 (by decide) ?_
    refine pf_PM_168 hC hP hD hS 0 rfl (Nat.le_of_ble_eq_true rfl) d_PM_findStrokes_9 (fun H locs hP hD hS => ?_)
    have hP : va_P D classes (cs_PM_findStrokes cI cZ a_p0 a_layer a_cabman a_page a_shows z_text z_readLayer z_readCabman z_trial z_book z_kept z_isKept z_seenCabman z_seenFinger z_seenOff z_seenCame z_value v_thrown v_textSize v_place v_cabmen v_readCabmen v_acts v_seen v_seed ((-9)) ((-9)) v_bestMany v_underMany v_underLeast v_restMany v_restFirst v_layer v_cabman v_page v_shows) H := hP
    have hD : va_D A (cs_PM_findStrokes cI cZ a_p0 a_layer a_cabman a_page a_shows z_text z_readLayer z_readCabman z_trial z_book z_kept z_isKept z_seenCabman z_seenFinger z_seenOff z_seenCame z_value v_thrown v_textSize v_place v_cabmen v_readCabmen v_acts v_seen v_seed ((-9)) ((-9)) v_bestMany v_underMany v_underLeast v_restMany v_restFirst v_layer v_cabman v_page v_shows) := hD
    refine lv_iconst (v := 0) hx hb d_PM_findStrokes_12 (by decide) ?_
    refine lv_istore_n (lv' := [(2, .int 0), (0, .ref a_p0), (1, .int i1)]) hx hb d_PM_findStrokes_13 rfl hl (by decide) rfl (fun ls hl => ?_)
    exact B_14 300 i1 0 ((-9)) ((-9)) v_shows _ _ _ hP hD hS (lv_sub hl [1, 2, 0] rfl) hf
  exact E _ _ hP hS
set_option maxHeartbeats 4000000 in
set_option maxRecDepth 100000 in
theorem c_PM_strokes (l : Launch) (D : va_G) (cI cZ : ClassId) (a_p0 a_layer a_cabman a_page a_shows z_text z_readLayer z_readCabman z_trial z_book z_kept z_isKept z_seenCabman z_seenFinger z_seenOff z_seenCame z_value : Nat) (i1 : Int32) (i2 : Int32) (v_thrown : Int32) (v_textSize : Int32) (v_place : Int32) (v_cabmen : Int32) (v_readCabmen : Int32) (v_acts : Int32) (v_seen : Int32) (v_seed : Int64) (v_bestCleaning : Int32) (v_bestLayers : Int32) (v_bestMany : Int32) (v_underMany : Int32) (v_underLeast : Int32) (v_restMany : Int32) (v_restFirst : Int32) (v_layer : Nat → Int32) (v_cabman : Nat → Int32) (v_page : Nat → Int32) (v_shows : Nat → Int32) (res : Int32 × Int32 × Int32 × Int32 × (Nat → Int32)) (hf : f_PM_strokes i1 i2 v_cabmen v_layer v_cabman v_page v_thrown v_bestCleaning v_bestLayers v_shows = some res) : CtI l y_PM_strokes b_PM_strokes 3 (some .int) 4 D cI cZ [.ref a_p0, .int i1, .int i2] (cs_PM_strokes cI cZ a_p0 a_layer a_cabman a_page a_shows z_text z_readLayer z_readCabman z_trial z_book z_kept z_isKept z_seenCabman z_seenFinger z_seenOff z_seenCame z_value v_thrown v_textSize v_place v_cabmen v_readCabmen v_acts v_seen v_seed v_bestCleaning v_bestLayers v_bestMany v_underMany v_underLeast v_restMany v_restFirst v_layer v_cabman v_page v_shows) res.1 (cs_PM_strokes cI cZ a_p0 a_layer a_cabman a_page a_shows z_text z_readLayer z_readCabman z_trial z_book z_kept z_isKept z_seenCabman z_seenFinger z_seenOff z_seenCame z_value res.2.1 v_textSize v_place v_cabmen v_readCabmen v_acts v_seen v_seed res.2.2.1 res.2.2.2.1 v_bestMany v_underMany v_underLeast v_restMany v_restFirst v_layer v_cabman v_page res.2.2.2.2) := by
  refine CtI_mk (by decide) (Nat.le_of_ble_eq_true rfl) ?_
  intro p e s m args below meth c A Q hC hA hP hD RET ls hl
  have hC : Cx p s m args meth c b_PM_strokes 3 R_PM D cI cZ := hC
  have hl : lv_has ls 3 [(0, .ref a_p0), (1, .int i1), (2, .int i2)] := hl
  obtain ⟨hx, hb, hml, hown, hts, hlk, hKK⟩ := id hC
  have hS : va_S A s.heap s.heap [] := va_S.rf
  have B_48 : ∀  (w0 : Int32) (v_thrown : Int32) (v_bestCleaning : Int32) (v_bestLayers : Int32) (v_shows : Nat → Int32) (H : Heap) (locs : List Loc) (ls : Array Slot), va_P D classes (cs_PM_strokes cI cZ a_p0 a_layer a_cabman a_page a_shows z_text z_readLayer z_readCabman z_trial z_book z_kept z_isKept z_seenCabman z_seenFinger z_seenOff z_seenCame z_value v_thrown v_textSize v_place v_cabmen v_readCabmen v_acts v_seen v_seed v_bestCleaning v_bestLayers v_bestMany v_underMany v_underLeast v_restMany v_restFirst v_layer v_cabman v_page v_shows) H → va_D A (cs_PM_strokes cI cZ a_p0 a_layer a_cabman a_page a_shows z_text z_readLayer z_readCabman z_trial z_book z_kept z_isKept z_seenCabman z_seenFinger z_seenOff z_seenCame z_value v_thrown v_textSize v_place v_cabmen v_readCabmen v_acts v_seen v_seed v_bestCleaning v_bestLayers v_bestMany v_underMany v_underLeast v_restMany v_restFirst v_layer v_cabman v_page v_shows) → va_S A s.heap H locs → lv_has ls 3 [] → f_PM_strokes_48  v_cabmen v_layer v_cabman v_page w0 v_thrown v_bestCleaning v_bestLayers v_shows = some res → W p l e (rm_ 4 (40 * 4)) s m args below meth c H locs 0 0 Q (F0 m 48 ls [.int w0]) := by
    intro  w0 v_thrown v_bestCleaning v_bestLayers v_shows H locs ls hP hD hS hl hf
    unfold f_PM_strokes_48 at hf
    have hr := Option.some.inj hf
    exact RET _ _ _ _ _ _ rfl (congrArg (fun r : Int32 × Int32 × Int32 × Int32 × (Nat → Int32) => r.1) hr) (congrArg (fun r : Int32 × Int32 × Int32 × Int32 × (Nat → Int32) => (cs_PM_strokes cI cZ a_p0 a_layer a_cabman a_page a_shows z_text z_readLayer z_readCabman z_trial z_book z_kept z_isKept z_seenCabman z_seenFinger z_seenOff z_seenCame z_value r.2.1 v_textSize v_place v_cabmen v_readCabmen v_acts v_seen v_seed r.2.2.1 r.2.2.2.1 v_bestMany v_underMany v_underLeast v_restMany v_restFirst v_layer v_cabman v_page r.2.2.2.2)) hr) hP hD hS d_PM_strokes_48
  unfold f_PM_strokes at hf
  have E : ∀ (H : Heap) (locs : List Loc), va_P D classes (cs_PM_strokes cI cZ a_p0 a_layer a_cabman a_page a_shows z_text z_readLayer z_readCabman z_trial z_book z_kept z_isKept z_seenCabman z_seenFinger z_seenOff z_seenCame z_value v_thrown v_textSize v_place v_cabmen v_readCabmen v_acts v_seen v_seed v_bestCleaning v_bestLayers v_bestMany v_underMany v_underLeast v_restMany v_restFirst v_layer v_cabman v_page v_shows) H → va_S A s.heap H locs → W p l e (rm_ 4 (40 * 4)) s m args below meth c H locs 0 0 Q (F0 m 0 ls []) := by
    intro H locs hP hS
    refine lv_aload_n hx hb d_PM_strokes_0 rfl (lv_at hl 0 rfl) ?_
    refine lv_iconst (v := 0) hx hb d_PM_strokes_1 (by decide) ?_
    refine pf_PM_59 hC hP hD hS 0 rfl (Nat.le_of_ble_eq_true rfl) d_PM_strokes_2 (fun H locs hP hD hS => ?_)
    have hP : va_P D classes (cs_PM_strokes cI cZ a_p0 a_layer a_cabman a_page a_shows z_text z_readLayer z_readCabman z_trial z_book z_kept z_isKept z_seenCabman z_seenFinger z_seenOff z_seenCame z_value 0 v_textSize v_place v_cabmen v_readCabmen v_acts v_seen v_seed v_bestCleaning v_bestLayers v_bestMany v_underMany v_underLeast v_restMany v_restFirst v_layer v_cabman v_page v_shows) H := hP
    have hD : va_D A (cs_PM_strokes cI cZ a_p0 a_layer a_cabman a_page a_shows z_text z_readLayer z_readCabman z_trial z_book z_kept z_isKept z_seenCabman z_seenFinger z_seenOff z_seenCame z_value 0 v_textSize v_place v_cabmen v_readCabmen v_acts v_seen v_seed v_bestCleaning v_bestLayers v_bestMany v_underMany v_underLeast v_restMany v_restFirst v_layer v_cabman v_page v_shows) := hD
    refine lv_aload_n hx hb d_PM_strokes_5 rfl (lv_at hl 0 rfl) ?_
    refine lv_iload_n hx hb d_PM_strokes_6 rfl (lv_at hl 1 rfl) ?_
    obtain ⟨r1, h2, hf⟩ := o_bind hf
    refine cVi (rest := []) (wr := [(a_layer, .inl (cI, 12, .inl v_layer)), (a_cabman, .inl (cI, 30, .inl v_cabman)), (a_page, .inl (cI, 16, .inl v_page)), (a_shows, .inl (cI, 4, .inl v_shows))]) (wn := (cs_PM_strokes cI cZ a_p0 a_layer a_cabman a_page a_shows z_text z_readLayer z_readCabman z_trial z_book z_kept z_isKept z_seenCabman z_seenFinger z_seenOff z_seenCame z_value 0 v_textSize v_place v_cabmen v_readCabmen v_acts v_seen v_seed v_bestCleaning v_bestLayers v_bestMany v_underMany v_underLeast v_restMany v_restFirst v_layer v_cabman v_page v_shows)) (c_PM_noCabman l D cI cZ a_p0 z_text a_layer a_cabman z_readLayer z_readCabman a_page z_trial z_book z_kept z_isKept z_seenCabman z_seenFinger z_seenOff z_seenCame z_value a_shows i1 0 v_textSize v_place v_cabmen v_readCabmen v_acts v_seen v_seed v_bestCleaning v_bestLayers v_bestMany v_underMany v_underLeast v_restMany v_restFirst r1 h2) hC hA hP hD hS hl.1 cw_PM_133 0 rfl rfl rfl ⟨Nat.le_of_ble_eq_true rfl, Nat.le_of_ble_eq_true rfl⟩ rfl rfl (Nat.le_of_ble_eq_true rfl) d_PM_strokes_7 ⟨Nat.zero_le _, Nat.zero_le _⟩ [0] [1, 2, 3, 4] [4, 0, 1, 2, 3] (by decide) (Cut_mk rfl rfl (by decide) (by decide) (by decide) rfl) (fun H locs hP hD hS => ?_)
    refine lv_if_eq (tgt := 15) hx hb d_PM_strokes_10 (by decide) (fun c3 => ?_) (fun c3 => ?_)
    · have hf := o_pos c3 hf
      refine lv_iload_n hx hb d_PM_strokes_15 rfl (lv_at hl 2 rfl) ?_
      refine lv_i2l (v := Int32.toInt64 i2) hx hb d_PM_strokes_16 rfl ?_
      refine lv_lconst (v := 0) hx hb d_PM_strokes_17 (by decide) ?_
      refine lv_lconst (v := 1) hx hb d_PM_strokes_18 (by decide) ?_
      obtain ⟨r4, h5, hf⟩ := o_bind hf
      refine cSi0 (rest := []) (c_PM_in l D cI cZ (Int32.toInt64 i2) 0 1 r4 h5) hC hA hP hD hS hl.1 cw_PM_66 ⟨Nat.le_of_ble_eq_true rfl, Nat.le_of_ble_eq_true rfl⟩ rfl rfl (Nat.le_of_ble_eq_true rfl) d_PM_strokes_19 ⟨Nat.zero_le _, Nat.zero_le _⟩ (fun H locs hP hS => ?_)
      refine lv_if_ne (tgt := 28) hx hb d_PM_strokes_22 (by decide) (fun c6 => ?_) (fun c6 => ?_)
      · have hf := o_neg c6 hf
        refine lv_aload_n hx hb d_PM_strokes_28 rfl (lv_at hl 0 rfl) ?_
        refine lv_iload_n hx hb d_PM_strokes_29 rfl (lv_at hl 1 rfl) ?_
        obtain ⟨r7, h8, hf⟩ := o_bind hf
        refine cVv (rest := []) (wr := []) (wn := (cs_PM_strokes cI cZ a_p0 a_layer a_cabman a_page a_shows z_text z_readLayer z_readCabman z_trial z_book z_kept z_isKept z_seenCabman z_seenFinger z_seenOff z_seenCame z_value 0 v_textSize v_place v_cabmen v_readCabmen v_acts v_seen v_seed r7.1 r7.2.1 v_bestMany v_underMany v_underLeast v_restMany v_restFirst v_layer v_cabman v_page r7.2.2)) (c_PM_findStrokes l D cI cZ a_p0 a_layer a_cabman a_page a_shows z_text z_readLayer z_readCabman z_trial z_book z_kept z_isKept z_seenCabman z_seenFinger z_seenOff z_seenCame z_value i1 0 v_textSize v_place v_cabmen v_readCabmen v_acts v_seen v_seed v_bestCleaning v_bestLayers v_bestMany v_underMany v_underLeast v_restMany v_restFirst v_layer v_cabman v_page v_shows r7 h8) hC hA hP hD hS hl.1 cw_PM_177 0 rfl rfl rfl ⟨Nat.le_of_ble_eq_true rfl, Nat.le_of_ble_eq_true rfl⟩ rfl rfl (Nat.le_of_ble_eq_true rfl) d_PM_strokes_30 ⟨Nat.zero_le _, Nat.zero_le _⟩ [0, 1, 2, 3, 4] [] [0, 1, 2, 3, 4] (by decide) (Cut_mk rfl rfl (by decide) (by decide) (by decide) rfl) (fun H locs hP hD hS => ?_)
        refine lv_iload_n hx hb d_PM_strokes_33 rfl (lv_at hl 2 rfl) ?_
        refine lv_if_ne (tgt := 44) hx hb d_PM_strokes_34 (by decide) (fun c9 => ?_) (fun c9 => ?_)
        · have hf := o_neg c9 hf
          refine lv_aload_n hx hb d_PM_strokes_44 rfl (lv_at hl 0 rfl) ?_
          refine gf_PM_168 hC hP 0 rfl rfl d_PM_strokes_45 ?_
          exact B_48 r7.2.1 0 r7.1 r7.2.1 r7.2.2 _ _ _ hP hD hS (lv_sub hl [] rfl) hf
        · have hf := o_pos c9 hf
          refine lv_aload_n hx hb d_PM_strokes_37 rfl (lv_at hl 0 rfl) ?_
          refine gf_PM_171 hC hP 0 rfl rfl d_PM_strokes_38 ?_
          refine lv_goto (tgt := 48) hx hb d_PM_strokes_41 (by decide) ?_
          exact B_48 r7.1 0 r7.1 r7.2.1 r7.2.2 _ _ _ hP hD hS (lv_sub hl [] rfl) hf
      · have hf := o_pos c6 hf
        refine lv_bipush (v := (-2)) hx hb d_PM_strokes_25 (by decide) ?_
        have hr := Option.some.inj hf
        exact RET _ _ _ _ _ _ rfl (congrArg (fun r : Int32 × Int32 × Int32 × Int32 × (Nat → Int32) => r.1) hr) (congrArg (fun r : Int32 × Int32 × Int32 × Int32 × (Nat → Int32) => (cs_PM_strokes cI cZ a_p0 a_layer a_cabman a_page a_shows z_text z_readLayer z_readCabman z_trial z_book z_kept z_isKept z_seenCabman z_seenFinger z_seenOff z_seenCame z_value r.2.1 v_textSize v_place v_cabmen v_readCabmen v_acts v_seen v_seed r.2.2.1 r.2.2.2.1 v_bestMany v_underMany v_underLeast v_restMany v_restFirst v_layer v_cabman v_page r.2.2.2.2)) hr) hP hD hS d_PM_strokes_27
    · have hf := o_neg c3 hf
      refine lv_iconst (v := (-1)) hx hb d_PM_strokes_13 (by decide) ?_
      have hr := Option.some.inj hf
      exact RET _ _ _ _ _ _ rfl (congrArg (fun r : Int32 × Int32 × Int32 × Int32 × (Nat → Int32) => r.1) hr) (congrArg (fun r : Int32 × Int32 × Int32 × Int32 × (Nat → Int32) => (cs_PM_strokes cI cZ a_p0 a_layer a_cabman a_page a_shows z_text z_readLayer z_readCabman z_trial z_book z_kept z_isKept z_seenCabman z_seenFinger z_seenOff z_seenCame z_value r.2.1 v_textSize v_place v_cabmen v_readCabmen v_acts v_seen v_seed r.2.2.1 r.2.2.2.1 v_bestMany v_underMany v_underLeast v_restMany v_restFirst v_layer v_cabman v_page r.2.2.2.2)) hr) hP hD hS d_PM_strokes_14
  exact E _ _ hP hS
set_option maxHeartbeats 4000000 in
set_option maxRecDepth 100000 in
theorem c_PM_peace (l : Launch) (D : va_G) (cI cZ : ClassId) (a_p0 a_layer a_cabman a_page a_shows z_text z_readLayer z_readCabman z_trial z_book z_kept z_isKept z_seenCabman z_seenFinger z_seenOff z_seenCame z_value : Nat) (i1 : Int32) (v_thrown : Int32) (v_textSize : Int32) (v_place : Int32) (v_cabmen : Int32) (v_readCabmen : Int32) (v_acts : Int32) (v_seen : Int32) (v_seed : Int64) (v_bestCleaning : Int32) (v_bestLayers : Int32) (v_bestMany : Int32) (v_underMany : Int32) (v_underLeast : Int32) (v_restMany : Int32) (v_restFirst : Int32) (v_layer : Nat → Int32) (v_cabman : Nat → Int32) (v_page : Nat → Int32) (v_shows : Nat → Int32) (res : Int32 × Int32 × Int32 × Int32 × (Nat → Int32)) (hf : f_PM_peace i1 v_cabmen v_layer v_cabman v_page v_thrown v_bestCleaning v_bestLayers v_shows = some res) : CtI l y_PM_peace b_PM_peace 2 (some .int) 4 D cI cZ [.ref a_p0, .int i1] (cs_PM_peace cI cZ a_p0 a_layer a_cabman a_page a_shows z_text z_readLayer z_readCabman z_trial z_book z_kept z_isKept z_seenCabman z_seenFinger z_seenOff z_seenCame z_value v_thrown v_textSize v_place v_cabmen v_readCabmen v_acts v_seen v_seed v_bestCleaning v_bestLayers v_bestMany v_underMany v_underLeast v_restMany v_restFirst v_layer v_cabman v_page v_shows) res.1 (cs_PM_peace cI cZ a_p0 a_layer a_cabman a_page a_shows z_text z_readLayer z_readCabman z_trial z_book z_kept z_isKept z_seenCabman z_seenFinger z_seenOff z_seenCame z_value res.2.1 v_textSize v_place v_cabmen v_readCabmen v_acts v_seen v_seed res.2.2.1 res.2.2.2.1 v_bestMany v_underMany v_underLeast v_restMany v_restFirst v_layer v_cabman v_page res.2.2.2.2) := by
  refine CtI_mk (by decide) (Nat.le_of_ble_eq_true rfl) ?_
  intro p e s m args below meth c A Q hC hA hP hD RET ls hl
  have hC : Cx p s m args meth c b_PM_peace 2 R_PM D cI cZ := hC
  have hl : lv_has ls 2 [(0, .ref a_p0), (1, .int i1)] := hl
  obtain ⟨hx, hb, hml, hown, hts, hlk, hKK⟩ := id hC
  have hS : va_S A s.heap s.heap [] := va_S.rf
  have B_39 : ∀  (w0 : Int32) (v_thrown : Int32) (v_bestCleaning : Int32) (v_bestLayers : Int32) (v_shows : Nat → Int32) (H : Heap) (locs : List Loc) (ls : Array Slot), va_P D classes (cs_PM_peace cI cZ a_p0 a_layer a_cabman a_page a_shows z_text z_readLayer z_readCabman z_trial z_book z_kept z_isKept z_seenCabman z_seenFinger z_seenOff z_seenCame z_value v_thrown v_textSize v_place v_cabmen v_readCabmen v_acts v_seen v_seed v_bestCleaning v_bestLayers v_bestMany v_underMany v_underLeast v_restMany v_restFirst v_layer v_cabman v_page v_shows) H → va_D A (cs_PM_peace cI cZ a_p0 a_layer a_cabman a_page a_shows z_text z_readLayer z_readCabman z_trial z_book z_kept z_isKept z_seenCabman z_seenFinger z_seenOff z_seenCame z_value v_thrown v_textSize v_place v_cabmen v_readCabmen v_acts v_seen v_seed v_bestCleaning v_bestLayers v_bestMany v_underMany v_underLeast v_restMany v_restFirst v_layer v_cabman v_page v_shows) → va_S A s.heap H locs → lv_has ls 2 [] → f_PM_peace_39  v_cabmen v_layer v_cabman v_page w0 v_thrown v_bestCleaning v_bestLayers v_shows = some res → W p l e (rm_ 4 (40 * 4)) s m args below meth c H locs 0 0 Q (F0 m 39 ls [.int w0]) := by
    intro  w0 v_thrown v_bestCleaning v_bestLayers v_shows H locs ls hP hD hS hl hf
    unfold f_PM_peace_39 at hf
    have hr := Option.some.inj hf
    exact RET _ _ _ _ _ _ rfl (congrArg (fun r : Int32 × Int32 × Int32 × Int32 × (Nat → Int32) => r.1) hr) (congrArg (fun r : Int32 × Int32 × Int32 × Int32 × (Nat → Int32) => (cs_PM_peace cI cZ a_p0 a_layer a_cabman a_page a_shows z_text z_readLayer z_readCabman z_trial z_book z_kept z_isKept z_seenCabman z_seenFinger z_seenOff z_seenCame z_value r.2.1 v_textSize v_place v_cabmen v_readCabmen v_acts v_seen v_seed r.2.2.1 r.2.2.2.1 v_bestMany v_underMany v_underLeast v_restMany v_restFirst v_layer v_cabman v_page r.2.2.2.2)) hr) hP hD hS d_PM_peace_39
  unfold f_PM_peace at hf
  have E : ∀ (H : Heap) (locs : List Loc), va_P D classes (cs_PM_peace cI cZ a_p0 a_layer a_cabman a_page a_shows z_text z_readLayer z_readCabman z_trial z_book z_kept z_isKept z_seenCabman z_seenFinger z_seenOff z_seenCame z_value v_thrown v_textSize v_place v_cabmen v_readCabmen v_acts v_seen v_seed v_bestCleaning v_bestLayers v_bestMany v_underMany v_underLeast v_restMany v_restFirst v_layer v_cabman v_page v_shows) H → va_S A s.heap H locs → W p l e (rm_ 4 (40 * 4)) s m args below meth c H locs 0 0 Q (F0 m 0 ls []) := by
    intro H locs hP hS
    refine lv_aload_n hx hb d_PM_peace_0 rfl (lv_at hl 0 rfl) ?_
    refine lv_iconst (v := 0) hx hb d_PM_peace_1 (by decide) ?_
    refine pf_PM_59 hC hP hD hS 0 rfl (Nat.le_of_ble_eq_true rfl) d_PM_peace_2 (fun H locs hP hD hS => ?_)
    have hP : va_P D classes (cs_PM_peace cI cZ a_p0 a_layer a_cabman a_page a_shows z_text z_readLayer z_readCabman z_trial z_book z_kept z_isKept z_seenCabman z_seenFinger z_seenOff z_seenCame z_value 0 v_textSize v_place v_cabmen v_readCabmen v_acts v_seen v_seed v_bestCleaning v_bestLayers v_bestMany v_underMany v_underLeast v_restMany v_restFirst v_layer v_cabman v_page v_shows) H := hP
    have hD : va_D A (cs_PM_peace cI cZ a_p0 a_layer a_cabman a_page a_shows z_text z_readLayer z_readCabman z_trial z_book z_kept z_isKept z_seenCabman z_seenFinger z_seenOff z_seenCame z_value 0 v_textSize v_place v_cabmen v_readCabmen v_acts v_seen v_seed v_bestCleaning v_bestLayers v_bestMany v_underMany v_underLeast v_restMany v_restFirst v_layer v_cabman v_page v_shows) := hD
    refine lv_iload_n hx hb d_PM_peace_5 rfl (lv_at hl 1 rfl) ?_
    refine lv_i2l (v := Int32.toInt64 i1) hx hb d_PM_peace_6 rfl ?_
    refine lv_lconst (v := 0) hx hb d_PM_peace_7 (by decide) ?_
    refine lv_lconst (v := 1) hx hb d_PM_peace_8 (by decide) ?_
    obtain ⟨r1, h2, hf⟩ := o_bind hf
    refine cSi0 (rest := []) (c_PM_in l D cI cZ (Int32.toInt64 i1) 0 1 r1 h2) hC hA hP hD hS hl.1 cw_PM_66 ⟨Nat.le_of_ble_eq_true rfl, Nat.le_of_ble_eq_true rfl⟩ rfl rfl (Nat.le_of_ble_eq_true rfl) d_PM_peace_9 ⟨Nat.zero_le _, Nat.zero_le _⟩ (fun H locs hP hS => ?_)
    refine lv_if_ne (tgt := 18) hx hb d_PM_peace_12 (by decide) (fun c3 => ?_) (fun c3 => ?_)
    · have hf := o_neg c3 hf
      refine lv_aload_n hx hb d_PM_peace_18 rfl (lv_at hl 0 rfl) ?_
      refine lv_bipush (v := (-9)) hx hb d_PM_peace_19 (by decide) ?_
      obtain ⟨r4, h5, hf⟩ := o_bind hf
      refine cVv (rest := []) (wr := []) (wn := (cs_PM_peace cI cZ a_p0 a_layer a_cabman a_page a_shows z_text z_readLayer z_readCabman z_trial z_book z_kept z_isKept z_seenCabman z_seenFinger z_seenOff z_seenCame z_value 0 v_textSize v_place v_cabmen v_readCabmen v_acts v_seen v_seed r4.1 r4.2.1 v_bestMany v_underMany v_underLeast v_restMany v_restFirst v_layer v_cabman v_page r4.2.2)) (c_PM_findStrokes l D cI cZ a_p0 a_layer a_cabman a_page a_shows z_text z_readLayer z_readCabman z_trial z_book z_kept z_isKept z_seenCabman z_seenFinger z_seenOff z_seenCame z_value ((-9)) 0 v_textSize v_place v_cabmen v_readCabmen v_acts v_seen v_seed v_bestCleaning v_bestLayers v_bestMany v_underMany v_underLeast v_restMany v_restFirst v_layer v_cabman v_page v_shows r4 h5) hC hA hP hD hS hl.1 cw_PM_177 0 rfl rfl rfl ⟨Nat.le_of_ble_eq_true rfl, Nat.le_of_ble_eq_true rfl⟩ rfl rfl (Nat.le_of_ble_eq_true rfl) d_PM_peace_21 ⟨Nat.zero_le _, Nat.zero_le _⟩ [0, 1, 2, 3, 4] [] [0, 1, 2, 3, 4] (by decide) (Cut_mk rfl rfl (by decide) (by decide) (by decide) rfl) (fun H locs hP hD hS => ?_)
      refine lv_iload_n hx hb d_PM_peace_24 rfl (lv_at hl 1 rfl) ?_
      refine lv_if_ne (tgt := 35) hx hb d_PM_peace_25 (by decide) (fun c6 => ?_) (fun c6 => ?_)
      · have hf := o_neg c6 hf
        refine lv_aload_n hx hb d_PM_peace_35 rfl (lv_at hl 0 rfl) ?_
        refine gf_PM_168 hC hP 0 rfl rfl d_PM_peace_36 ?_
        exact B_39 r4.2.1 0 r4.1 r4.2.1 r4.2.2 _ _ _ hP hD hS (lv_sub hl [] rfl) hf
      · have hf := o_pos c6 hf
        refine lv_aload_n hx hb d_PM_peace_28 rfl (lv_at hl 0 rfl) ?_
        refine gf_PM_171 hC hP 0 rfl rfl d_PM_peace_29 ?_
        refine lv_goto (tgt := 39) hx hb d_PM_peace_32 (by decide) ?_
        exact B_39 r4.1 0 r4.1 r4.2.1 r4.2.2 _ _ _ hP hD hS (lv_sub hl [] rfl) hf
    · have hf := o_pos c3 hf
      refine lv_bipush (v := (-2)) hx hb d_PM_peace_15 (by decide) ?_
      have hr := Option.some.inj hf
      exact RET _ _ _ _ _ _ rfl (congrArg (fun r : Int32 × Int32 × Int32 × Int32 × (Nat → Int32) => r.1) hr) (congrArg (fun r : Int32 × Int32 × Int32 × Int32 × (Nat → Int32) => (cs_PM_peace cI cZ a_p0 a_layer a_cabman a_page a_shows z_text z_readLayer z_readCabman z_trial z_book z_kept z_isKept z_seenCabman z_seenFinger z_seenOff z_seenCame z_value r.2.1 v_textSize v_place v_cabmen v_readCabmen v_acts v_seen v_seed r.2.2.1 r.2.2.2.1 v_bestMany v_underMany v_underLeast v_restMany v_restFirst v_layer v_cabman v_page r.2.2.2.2)) hr) hP hD hS d_PM_peace_17
  exact E _ _ hP hS
set_option maxHeartbeats 4000000 in
set_option maxRecDepth 100000 in
theorem c_PM_givesUp (l : Launch) (D : va_G) (cI cZ : ClassId) (a_p0 a_layer a_cabman a_page a_trial a_shows z_text z_readLayer z_readCabman z_book z_kept z_isKept z_seenCabman z_seenFinger z_seenOff z_seenCame z_value : Nat) (i1 : Int32) (v_thrown : Int32) (v_textSize : Int32) (v_place : Int32) (v_cabmen : Int32) (v_readCabmen : Int32) (v_acts : Int32) (v_seen : Int32) (v_seed : Int64) (v_bestCleaning : Int32) (v_bestLayers : Int32) (v_bestMany : Int32) (v_underMany : Int32) (v_underLeast : Int32) (v_restMany : Int32) (v_restFirst : Int32) (v_layer : Nat → Int32) (v_cabman : Nat → Int32) (v_page : Nat → Int32) (v_trial : Nat → Int32) (v_shows : Nat → Int32) (res : Int32 × Int32 × (Nat → Int32) × (Nat → Int32)) (hf : f_PM_givesUp i1 v_cabmen v_layer v_cabman v_page v_thrown v_trial v_shows = some res) : CtI l y_PM_givesUp b_PM_givesUp 3 (some .int) 4 D cI cZ [.ref a_p0, .int i1] (cs_PM_givesUp cI cZ a_p0 a_layer a_cabman a_page a_trial a_shows z_text z_readLayer z_readCabman z_book z_kept z_isKept z_seenCabman z_seenFinger z_seenOff z_seenCame z_value v_thrown v_textSize v_place v_cabmen v_readCabmen v_acts v_seen v_seed v_bestCleaning v_bestLayers v_bestMany v_underMany v_underLeast v_restMany v_restFirst v_layer v_cabman v_page v_trial v_shows) res.1 (cs_PM_givesUp cI cZ a_p0 a_layer a_cabman a_page a_trial a_shows z_text z_readLayer z_readCabman z_book z_kept z_isKept z_seenCabman z_seenFinger z_seenOff z_seenCame z_value res.2.1 v_textSize v_place v_cabmen v_readCabmen v_acts v_seen v_seed v_bestCleaning v_bestLayers v_bestMany v_underMany v_underLeast v_restMany v_restFirst v_layer v_cabman v_page res.2.2.1 res.2.2.2) := by
  refine CtI_mk (by decide) (Nat.le_of_ble_eq_true rfl) ?_
  intro p e s m args below meth c A Q hC hA hP hD RET ls hl
  have hC : Cx p s m args meth c b_PM_givesUp 3 R_PM D cI cZ := hC
  have hl : lv_has ls 3 [(0, .ref a_p0), (1, .int i1)] := hl
  obtain ⟨hx, hb, hml, hown, hts, hlk, hKK⟩ := id hC
  have hS : va_S A s.heap s.heap [] := va_S.rf
  have B_38 : ∀  (n : Nat) (x1 : Int32) (x2 : Int32) (v_thrown : Int32) (v_trial : Nat → Int32) (v_shows : Nat → Int32) (H : Heap) (locs : List Loc) (ls : Array Slot), va_P D classes (cs_PM_givesUp cI cZ a_p0 a_layer a_cabman a_page a_trial a_shows z_text z_readLayer z_readCabman z_book z_kept z_isKept z_seenCabman z_seenFinger z_seenOff z_seenCame z_value v_thrown v_textSize v_place v_cabmen v_readCabmen v_acts v_seen v_seed v_bestCleaning v_bestLayers v_bestMany v_underMany v_underLeast v_restMany v_restFirst v_layer v_cabman v_page v_trial v_shows) H → va_D A (cs_PM_givesUp cI cZ a_p0 a_layer a_cabman a_page a_trial a_shows z_text z_readLayer z_readCabman z_book z_kept z_isKept z_seenCabman z_seenFinger z_seenOff z_seenCame z_value v_thrown v_textSize v_place v_cabmen v_readCabmen v_acts v_seen v_seed v_bestCleaning v_bestLayers v_bestMany v_underMany v_underLeast v_restMany v_restFirst v_layer v_cabman v_page v_trial v_shows) → va_S A s.heap H locs → lv_has ls 3 [(0, .ref a_p0), (1, .int x1), (2, .int x2)] → f_PM_givesUp_38  v_cabmen v_layer v_cabman v_page n x1 x2 v_thrown v_trial v_shows = some res → W p l e (rm_ 4 (40 * 4)) s m args below meth c H locs 0 0 Q (F0 m 38 ls []) := by
    intro  n
    induction n with
    | zero => intro x1 x2 v_thrown v_trial v_shows H locs ls hP hD hS hl hf; exact nomatch hf
    | succ n ih =>
      intro x1 x2 v_thrown v_trial v_shows H locs ls hP hD hS hl hf
      have hf : f_PM_givesUp_38_b  (f_PM_givesUp_38  v_cabmen v_layer v_cabman v_page n) v_cabmen v_layer v_cabman v_page x1 x2 v_thrown v_trial v_shows = some res := hf
      generalize f_PM_givesUp_38  v_cabmen v_layer v_cabman v_page n = back_38 at ih hf
      have K_38 := ih
      unfold f_PM_givesUp_38_b at hf
      refine lv_iload_n hx hb d_PM_givesUp_38 rfl (lv_at hl 2 rfl) ?_
      refine lv_bipush (v := 20) hx hb d_PM_givesUp_39 (by decide) ?_
      refine lv_icmp_gt (tgt := 74) hx hb d_PM_givesUp_41 (by decide) (fun c1 => ?_) (fun c1 => ?_)
      · have hf := o_pos c1 hf
        refine lv_bipush (v := (-9)) hx hb d_PM_givesUp_74 (by decide) ?_
        have hr := Option.some.inj hf
        exact RET _ _ _ _ _ _ rfl (congrArg (fun r : Int32 × Int32 × (Nat → Int32) × (Nat → Int32) => r.1) hr) (congrArg (fun r : Int32 × Int32 × (Nat → Int32) × (Nat → Int32) => (cs_PM_givesUp cI cZ a_p0 a_layer a_cabman a_page a_trial a_shows z_text z_readLayer z_readCabman z_book z_kept z_isKept z_seenCabman z_seenFinger z_seenOff z_seenCame z_value r.2.1 v_textSize v_place v_cabmen v_readCabmen v_acts v_seen v_seed v_bestCleaning v_bestLayers v_bestMany v_underMany v_underLeast v_restMany v_restFirst v_layer v_cabman v_page r.2.2.1 r.2.2.2)) hr) hP hD hS d_PM_givesUp_76
      · have hf := o_neg c1 hf
        refine lv_aload_n hx hb d_PM_givesUp_44 rfl (lv_at hl 0 rfl) ?_
        refine lv_aload_n hx hb d_PM_givesUp_45 rfl (lv_at hl 0 rfl) ?_
        refine gf_PM_28 hC hP 0 rfl rfl d_PM_givesUp_46 ?_
        obtain ⟨r2, h3, hf⟩ := o_bind hf
        refine cVv (rest := []) (wr := [(a_page, .inl (cI, 16, .inl v_page))]) (wn := (cs_PM_givesUp cI cZ a_p0 a_layer a_cabman a_page a_trial a_shows z_text z_readLayer z_readCabman z_book z_kept z_isKept z_seenCabman z_seenFinger z_seenOff z_seenCame z_value v_thrown v_textSize v_place v_cabmen v_readCabmen v_acts v_seen v_seed v_bestCleaning v_bestLayers v_bestMany v_underMany v_underLeast v_restMany v_restFirst v_layer v_cabman v_page r2.2 r2.1)) (c_PM_goNight l D cI cZ a_p0 a_layer a_cabman a_shows a_trial z_text z_readLayer z_readCabman a_page a_trial z_book z_kept z_isKept z_seenCabman z_seenFinger z_seenOff z_seenCame z_value v_thrown v_textSize v_place v_cabmen v_readCabmen v_acts v_seen v_seed v_bestCleaning v_bestLayers v_bestMany v_underMany v_underLeast v_restMany v_restFirst v_layer v_cabman v_shows v_trial r2 h3) hC hA hP hD hS hl.1 cw_PM_145 0 rfl rfl rfl ⟨Nat.le_of_ble_eq_true rfl, Nat.le_of_ble_eq_true rfl⟩ rfl rfl (Nat.le_of_ble_eq_true rfl) d_PM_givesUp_49 ⟨Nat.zero_le _, Nat.zero_le _⟩ [0, 1, 2, 5, 4] [3] [1, 2, 3, 0, 5, 4] (by decide) (Cut_mk rfl rfl (by decide) (by decide) (by decide) rfl) (fun H locs hP hD hS => ?_)
        refine lv_aload_n hx hb d_PM_givesUp_52 rfl (lv_at hl 0 rfl) ?_
        refine gf_PM_28 hC hP 0 rfl rfl d_PM_givesUp_53 ?_
        refine lv_bipush (v := 10) hx hb d_PM_givesUp_56 (by decide) ?_
        refine lv_iload_n hx hb d_PM_givesUp_58 rfl (lv_at hl 1 rfl) ?_
        refine lv_iadd hx hb d_PM_givesUp_59 ?_
        obtain ⟨v4, h5, hf⟩ := o_bind hf
        refine r_iald hC hP 4 rfl h5 d_PM_givesUp_60 ?_
        refine lv_bipush (v := (-9)) hx hb d_PM_givesUp_61 (by decide) ?_
        refine lv_icmp_ne (tgt := 68) hx hb d_PM_givesUp_63 (by decide) (fun c6 => ?_) (fun c6 => ?_)
        · have hf := o_neg c6 hf
          refine lv_iinc (v := x2 + 1) (lv' := [(2, .int (x2 + 1)), (0, .ref a_p0), (1, .int x1)]) hx hb d_PM_givesUp_68 hl (k := 2) rfl (rfl) (by decide) rfl (fun ls hl => ?_)
          refine lv_goto (tgt := 38) hx hb d_PM_givesUp_71 (by decide) ?_
          exact K_38 x1 (x2 + 1) v_thrown r2.2 r2.1 _ _ _ hP hD hS (lv_sub hl [1, 2, 0] rfl) hf
        · have hf := o_pos c6 hf
          refine lv_iload_n hx hb d_PM_givesUp_66 rfl (lv_at hl 2 rfl) ?_
          have hr := Option.some.inj hf
          exact RET _ _ _ _ _ _ rfl (congrArg (fun r : Int32 × Int32 × (Nat → Int32) × (Nat → Int32) => r.1) hr) (congrArg (fun r : Int32 × Int32 × (Nat → Int32) × (Nat → Int32) => (cs_PM_givesUp cI cZ a_p0 a_layer a_cabman a_page a_trial a_shows z_text z_readLayer z_readCabman z_book z_kept z_isKept z_seenCabman z_seenFinger z_seenOff z_seenCame z_value r.2.1 v_textSize v_place v_cabmen v_readCabmen v_acts v_seen v_seed v_bestCleaning v_bestLayers v_bestMany v_underMany v_underLeast v_restMany v_restFirst v_layer v_cabman v_page r.2.2.1 r.2.2.2)) hr) hP hD hS d_PM_givesUp_67
  unfold f_PM_givesUp at hf
  have E : ∀ (H : Heap) (locs : List Loc), va_P D classes (cs_PM_givesUp cI cZ a_p0 a_layer a_cabman a_page a_trial a_shows z_text z_readLayer z_readCabman z_book z_kept z_isKept z_seenCabman z_seenFinger z_seenOff z_seenCame z_value v_thrown v_textSize v_place v_cabmen v_readCabmen v_acts v_seen v_seed v_bestCleaning v_bestLayers v_bestMany v_underMany v_underLeast v_restMany v_restFirst v_layer v_cabman v_page v_trial v_shows) H → va_S A s.heap H locs → W p l e (rm_ 4 (40 * 4)) s m args below meth c H locs 0 0 Q (F0 m 0 ls []) := by
    intro H locs hP hS
    refine lv_aload_n hx hb d_PM_givesUp_0 rfl (lv_at hl 0 rfl) ?_
    refine lv_iconst (v := 0) hx hb d_PM_givesUp_1 (by decide) ?_
    refine pf_PM_59 hC hP hD hS 0 rfl (Nat.le_of_ble_eq_true rfl) d_PM_givesUp_2 (fun H locs hP hD hS => ?_)
    have hP : va_P D classes (cs_PM_givesUp cI cZ a_p0 a_layer a_cabman a_page a_trial a_shows z_text z_readLayer z_readCabman z_book z_kept z_isKept z_seenCabman z_seenFinger z_seenOff z_seenCame z_value 0 v_textSize v_place v_cabmen v_readCabmen v_acts v_seen v_seed v_bestCleaning v_bestLayers v_bestMany v_underMany v_underLeast v_restMany v_restFirst v_layer v_cabman v_page v_trial v_shows) H := hP
    have hD : va_D A (cs_PM_givesUp cI cZ a_p0 a_layer a_cabman a_page a_trial a_shows z_text z_readLayer z_readCabman z_book z_kept z_isKept z_seenCabman z_seenFinger z_seenOff z_seenCame z_value 0 v_textSize v_place v_cabmen v_readCabmen v_acts v_seen v_seed v_bestCleaning v_bestLayers v_bestMany v_underMany v_underLeast v_restMany v_restFirst v_layer v_cabman v_page v_trial v_shows) := hD
    refine lv_aload_n hx hb d_PM_givesUp_5 rfl (lv_at hl 0 rfl) ?_
    refine lv_iload_n hx hb d_PM_givesUp_6 rfl (lv_at hl 1 rfl) ?_
    obtain ⟨r1, h2, hf⟩ := o_bind hf
    refine cVi (rest := []) (wr := [(a_layer, .inl (cI, 12, .inl v_layer)), (a_cabman, .inl (cI, 30, .inl v_cabman)), (a_page, .inl (cI, 16, .inl v_page)), (a_trial, .inl (cI, 16, .inl v_trial)), (a_shows, .inl (cI, 4, .inl v_shows))]) (wn := (cs_PM_givesUp cI cZ a_p0 a_layer a_cabman a_page a_trial a_shows z_text z_readLayer z_readCabman z_book z_kept z_isKept z_seenCabman z_seenFinger z_seenOff z_seenCame z_value 0 v_textSize v_place v_cabmen v_readCabmen v_acts v_seen v_seed v_bestCleaning v_bestLayers v_bestMany v_underMany v_underLeast v_restMany v_restFirst v_layer v_cabman v_page v_trial v_shows)) (c_PM_noCabman l D cI cZ a_p0 z_text a_layer a_cabman z_readLayer z_readCabman a_page a_trial z_book z_kept z_isKept z_seenCabman z_seenFinger z_seenOff z_seenCame z_value a_shows i1 0 v_textSize v_place v_cabmen v_readCabmen v_acts v_seen v_seed v_bestCleaning v_bestLayers v_bestMany v_underMany v_underLeast v_restMany v_restFirst r1 h2) hC hA hP hD hS hl.1 cw_PM_133 0 rfl rfl rfl ⟨Nat.le_of_ble_eq_true rfl, Nat.le_of_ble_eq_true rfl⟩ rfl rfl (Nat.le_of_ble_eq_true rfl) d_PM_givesUp_7 ⟨Nat.zero_le _, Nat.zero_le _⟩ [0] [1, 2, 3, 4, 5] [5, 0, 1, 2, 3, 4] (by decide) (Cut_mk rfl rfl (by decide) (by decide) (by decide) rfl) (fun H locs hP hD hS => ?_)
    refine lv_if_eq (tgt := 15) hx hb d_PM_givesUp_10 (by decide) (fun c3 => ?_) (fun c3 => ?_)
    · have hf := o_pos c3 hf
      refine lv_aload_n hx hb d_PM_givesUp_15 rfl (lv_at hl 0 rfl) ?_
      refine gf_PM_25 hC hP 0 rfl rfl d_PM_givesUp_16 ?_
      refine lv_bipush (v := 10) hx hb d_PM_givesUp_19 (by decide) ?_
      refine lv_iload_n hx hb d_PM_givesUp_21 rfl (lv_at hl 1 rfl) ?_
      refine lv_iadd hx hb d_PM_givesUp_22 ?_
      obtain ⟨v4, h5, hf⟩ := o_bind hf
      refine r_iald hC hP 3 rfl h5 d_PM_givesUp_23 ?_
      refine lv_bipush (v := (-9)) hx hb d_PM_givesUp_24 (by decide) ?_
      refine lv_icmp_ne (tgt := 32) hx hb d_PM_givesUp_26 (by decide) (fun c6 => ?_) (fun c6 => ?_)
      · have hf := o_neg c6 hf
        refine lv_aload_n hx hb d_PM_givesUp_32 rfl (lv_at hl 0 rfl) ?_
        obtain ⟨r7, h8, hf⟩ := o_bind hf
        refine cVv (rest := []) (wr := [(a_layer, .inl (cI, 12, .inl v_layer)), (a_cabman, .inl (cI, 30, .inl v_cabman)), (a_shows, .inl (cI, 4, .inl v_shows))]) (wn := (cs_PM_givesUp cI cZ a_p0 a_layer a_cabman a_page a_trial a_shows z_text z_readLayer z_readCabman z_book z_kept z_isKept z_seenCabman z_seenFinger z_seenOff z_seenCame z_value 0 v_textSize v_place v_cabmen v_readCabmen v_acts v_seen v_seed v_bestCleaning v_bestLayers v_bestMany v_underMany v_underLeast v_restMany v_restFirst v_layer v_cabman v_page r7 v_shows)) (c_PM_begin l D cI cZ a_p0 a_page a_trial z_text a_layer a_cabman z_readLayer z_readCabman z_book z_kept z_isKept z_seenCabman z_seenFinger z_seenOff z_seenCame z_value a_shows 0 v_textSize v_place v_cabmen v_readCabmen v_acts v_seen v_seed v_bestCleaning v_bestLayers v_bestMany v_underMany v_underLeast v_restMany v_restFirst v_page v_trial r7 h8) hC hA hP hD hS hl.1 cw_PM_181 0 rfl rfl rfl ⟨Nat.le_of_ble_eq_true rfl, Nat.le_of_ble_eq_true rfl⟩ rfl rfl (Nat.le_of_ble_eq_true rfl) d_PM_givesUp_33 ⟨Nat.zero_le _, Nat.zero_le _⟩ [0, 3, 4] [1, 2, 5] [3, 0, 1, 4, 5, 2] (by decide) (Cut_mk rfl rfl (by decide) (by decide) (by decide) rfl) (fun H locs hP hD hS => ?_)
        refine lv_iconst (v := 1) hx hb d_PM_givesUp_36 (by decide) ?_
        refine lv_istore_n (lv' := [(2, .int 1), (0, .ref a_p0), (1, .int i1)]) hx hb d_PM_givesUp_37 rfl hl (by decide) rfl (fun ls hl => ?_)
        exact B_38 300 i1 1 0 r7 v_shows _ _ _ hP hD hS (lv_sub hl [1, 2, 0] rfl) hf
      · have hf := o_pos c6 hf
        refine lv_bipush (v := (-3)) hx hb d_PM_givesUp_29 (by decide) ?_
        have hr := Option.some.inj hf
        exact RET _ _ _ _ _ _ rfl (congrArg (fun r : Int32 × Int32 × (Nat → Int32) × (Nat → Int32) => r.1) hr) (congrArg (fun r : Int32 × Int32 × (Nat → Int32) × (Nat → Int32) => (cs_PM_givesUp cI cZ a_p0 a_layer a_cabman a_page a_trial a_shows z_text z_readLayer z_readCabman z_book z_kept z_isKept z_seenCabman z_seenFinger z_seenOff z_seenCame z_value r.2.1 v_textSize v_place v_cabmen v_readCabmen v_acts v_seen v_seed v_bestCleaning v_bestLayers v_bestMany v_underMany v_underLeast v_restMany v_restFirst v_layer v_cabman v_page r.2.2.1 r.2.2.2)) hr) hP hD hS d_PM_givesUp_31
    · have hf := o_neg c3 hf
      refine lv_iconst (v := (-1)) hx hb d_PM_givesUp_13 (by decide) ?_
      have hr := Option.some.inj hf
      exact RET _ _ _ _ _ _ rfl (congrArg (fun r : Int32 × Int32 × (Nat → Int32) × (Nat → Int32) => r.1) hr) (congrArg (fun r : Int32 × Int32 × (Nat → Int32) × (Nat → Int32) => (cs_PM_givesUp cI cZ a_p0 a_layer a_cabman a_page a_trial a_shows z_text z_readLayer z_readCabman z_book z_kept z_isKept z_seenCabman z_seenFinger z_seenOff z_seenCame z_value r.2.1 v_textSize v_place v_cabmen v_readCabmen v_acts v_seen v_seed v_bestCleaning v_bestLayers v_bestMany v_underMany v_underLeast v_restMany v_restFirst v_layer v_cabman v_page r.2.2.1 r.2.2.2)) hr) hP hD hS d_PM_givesUp_14
  exact E _ _ hP hS
set_option maxHeartbeats 4000000 in
set_option maxRecDepth 100000 in
theorem c_PM_longest (l : Launch) (D : va_G) (cI cZ : ClassId) (a_p0 a_layer a_cabman a_page a_trial a_shows z_text z_readLayer z_readCabman z_book z_kept z_isKept z_seenCabman z_seenFinger z_seenOff z_seenCame z_value : Nat) (i1 : Int32) (v_thrown : Int32) (v_textSize : Int32) (v_place : Int32) (v_cabmen : Int32) (v_readCabmen : Int32) (v_acts : Int32) (v_seen : Int32) (v_seed : Int64) (v_bestCleaning : Int32) (v_bestLayers : Int32) (v_bestMany : Int32) (v_underMany : Int32) (v_underLeast : Int32) (v_restMany : Int32) (v_restFirst : Int32) (v_layer : Nat → Int32) (v_cabman : Nat → Int32) (v_page : Nat → Int32) (v_trial : Nat → Int32) (v_shows : Nat → Int32) (res : Int32 × Int32 × (Nat → Int32) × (Nat → Int32)) (hf : f_PM_longest i1 v_cabmen v_layer v_cabman v_page v_thrown v_trial v_shows = some res) : CtI l y_PM_longest b_PM_longest 4 (some .int) 4 D cI cZ [.ref a_p0, .int i1] (cs_PM_longest cI cZ a_p0 a_layer a_cabman a_page a_trial a_shows z_text z_readLayer z_readCabman z_book z_kept z_isKept z_seenCabman z_seenFinger z_seenOff z_seenCame z_value v_thrown v_textSize v_place v_cabmen v_readCabmen v_acts v_seen v_seed v_bestCleaning v_bestLayers v_bestMany v_underMany v_underLeast v_restMany v_restFirst v_layer v_cabman v_page v_trial v_shows) res.1 (cs_PM_longest cI cZ a_p0 a_layer a_cabman a_page a_trial a_shows z_text z_readLayer z_readCabman z_book z_kept z_isKept z_seenCabman z_seenFinger z_seenOff z_seenCame z_value res.2.1 v_textSize v_place v_cabmen v_readCabmen v_acts v_seen v_seed v_bestCleaning v_bestLayers v_bestMany v_underMany v_underLeast v_restMany v_restFirst v_layer v_cabman v_page res.2.2.1 res.2.2.2) := by
  refine CtI_mk (by decide) (Nat.le_of_ble_eq_true rfl) ?_
  intro p e s m args below meth c A Q hC hA hP hD RET ls hl
  have hC : Cx p s m args meth c b_PM_longest 4 R_PM D cI cZ := hC
  have hl : lv_has ls 4 [(0, .ref a_p0), (1, .int i1)] := hl
  obtain ⟨hx, hb, hml, hown, hts, hlk, hKK⟩ := id hC
  have hS : va_S A s.heap s.heap [] := va_S.rf
  have B_66 : ∀ (back_33 : Int32 → Int32 → Int32 → Int32 → (Nat → Int32) → (Nat → Int32) → Option (Int32 × Int32 × (Nat → Int32) × (Nat → Int32))) (K_33 : ∀ (x1 : Int32) (x2 : Int32) (x3 : Int32) (v_thrown : Int32) (v_trial : Nat → Int32) (v_shows : Nat → Int32) (H : Heap) (locs : List Loc) (ls : Array Slot), va_P D classes (cs_PM_longest cI cZ a_p0 a_layer a_cabman a_page a_trial a_shows z_text z_readLayer z_readCabman z_book z_kept z_isKept z_seenCabman z_seenFinger z_seenOff z_seenCame z_value v_thrown v_textSize v_place v_cabmen v_readCabmen v_acts v_seen v_seed v_bestCleaning v_bestLayers v_bestMany v_underMany v_underLeast v_restMany v_restFirst v_layer v_cabman v_page v_trial v_shows) H → va_D A (cs_PM_longest cI cZ a_p0 a_layer a_cabman a_page a_trial a_shows z_text z_readLayer z_readCabman z_book z_kept z_isKept z_seenCabman z_seenFinger z_seenOff z_seenCame z_value v_thrown v_textSize v_place v_cabmen v_readCabmen v_acts v_seen v_seed v_bestCleaning v_bestLayers v_bestMany v_underMany v_underLeast v_restMany v_restFirst v_layer v_cabman v_page v_trial v_shows) → va_S A s.heap H locs → lv_has ls 4 [(0, .ref a_p0), (1, .int x1), (2, .int x2), (3, .int x3)] → back_33 x1 x2 x3 v_thrown v_trial v_shows = some res → W p l e (rm_ 4 (40 * 4)) s m args below meth c H locs 0 0 Q (F0 m 33 ls [])) (x1 : Int32) (x3 : Int32) (w0 : Int32) (v_thrown : Int32) (v_trial : Nat → Int32) (v_shows : Nat → Int32) (H : Heap) (locs : List Loc) (ls : Array Slot), va_P D classes (cs_PM_longest cI cZ a_p0 a_layer a_cabman a_page a_trial a_shows z_text z_readLayer z_readCabman z_book z_kept z_isKept z_seenCabman z_seenFinger z_seenOff z_seenCame z_value v_thrown v_textSize v_place v_cabmen v_readCabmen v_acts v_seen v_seed v_bestCleaning v_bestLayers v_bestMany v_underMany v_underLeast v_restMany v_restFirst v_layer v_cabman v_page v_trial v_shows) H → va_D A (cs_PM_longest cI cZ a_p0 a_layer a_cabman a_page a_trial a_shows z_text z_readLayer z_readCabman z_book z_kept z_isKept z_seenCabman z_seenFinger z_seenOff z_seenCame z_value v_thrown v_textSize v_place v_cabmen v_readCabmen v_acts v_seen v_seed v_bestCleaning v_bestLayers v_bestMany v_underMany v_underLeast v_restMany v_restFirst v_layer v_cabman v_page v_trial v_shows) → va_S A s.heap H locs → lv_has ls 4 [(0, .ref a_p0), (1, .int x1), (3, .int x3)] → f_PM_longest_66 back_33 v_cabmen v_layer v_cabman v_page x1 x3 w0 v_thrown v_trial v_shows = some res → W p l e (rm_ 4 (40 * 4)) s m args below meth c H locs 0 0 Q (F0 m 66 ls [.int w0]) := by
    intro back_33 K_33 x1 x3 w0 v_thrown v_trial v_shows H locs ls hP hD hS hl hf
    unfold f_PM_longest_66 at hf
    refine lv_istore_n (lv' := [(2, .int w0), (0, .ref a_p0), (1, .int x1), (3, .int x3)]) hx hb d_PM_longest_66 rfl hl (by decide) rfl (fun ls hl => ?_)
    refine lv_iinc (v := x3 + 1) (lv' := [(3, .int (x3 + 1)), (2, .int w0), (0, .ref a_p0), (1, .int x1)]) hx hb d_PM_longest_67 hl (k := 3) rfl (rfl) (by decide) rfl (fun ls hl => ?_)
    refine lv_goto (tgt := 33) hx hb d_PM_longest_70 (by decide) ?_
    exact K_33 x1 w0 (x3 + 1) v_thrown v_trial v_shows _ _ _ hP hD hS (lv_sub hl [2, 3, 1, 0] rfl) hf
  have B_33 : ∀  (n : Nat) (x1 : Int32) (x2 : Int32) (x3 : Int32) (v_thrown : Int32) (v_trial : Nat → Int32) (v_shows : Nat → Int32) (H : Heap) (locs : List Loc) (ls : Array Slot), va_P D classes (cs_PM_longest cI cZ a_p0 a_layer a_cabman a_page a_trial a_shows z_text z_readLayer z_readCabman z_book z_kept z_isKept z_seenCabman z_seenFinger z_seenOff z_seenCame z_value v_thrown v_textSize v_place v_cabmen v_readCabmen v_acts v_seen v_seed v_bestCleaning v_bestLayers v_bestMany v_underMany v_underLeast v_restMany v_restFirst v_layer v_cabman v_page v_trial v_shows) H → va_D A (cs_PM_longest cI cZ a_p0 a_layer a_cabman a_page a_trial a_shows z_text z_readLayer z_readCabman z_book z_kept z_isKept z_seenCabman z_seenFinger z_seenOff z_seenCame z_value v_thrown v_textSize v_place v_cabmen v_readCabmen v_acts v_seen v_seed v_bestCleaning v_bestLayers v_bestMany v_underMany v_underLeast v_restMany v_restFirst v_layer v_cabman v_page v_trial v_shows) → va_S A s.heap H locs → lv_has ls 4 [(0, .ref a_p0), (1, .int x1), (2, .int x2), (3, .int x3)] → f_PM_longest_33  v_cabmen v_layer v_cabman v_page n x1 x2 x3 v_thrown v_trial v_shows = some res → W p l e (rm_ 4 (40 * 4)) s m args below meth c H locs 0 0 Q (F0 m 33 ls []) := by
    intro  n
    induction n with
    | zero => intro x1 x2 x3 v_thrown v_trial v_shows H locs ls hP hD hS hl hf; exact nomatch hf
    | succ n ih =>
      intro x1 x2 x3 v_thrown v_trial v_shows H locs ls hP hD hS hl hf
      have hf : f_PM_longest_33_b  (f_PM_longest_33  v_cabmen v_layer v_cabman v_page n) v_cabmen v_layer v_cabman v_page x1 x2 x3 v_thrown v_trial v_shows = some res := hf
      generalize f_PM_longest_33  v_cabmen v_layer v_cabman v_page n = back_33 at ih hf
      have K_33 := ih
      unfold f_PM_longest_33_b at hf
      refine lv_iload_n hx hb d_PM_longest_33 rfl (lv_at hl 3 rfl) ?_
      refine lv_iload_n hx hb d_PM_longest_34 rfl (lv_at hl 1 rfl) ?_
      refine lv_icmp_ge (tgt := 73) hx hb d_PM_longest_35 (by decide) (fun c1 => ?_) (fun c1 => ?_)
      · have hf := o_pos c1 hf
        refine lv_iload_n hx hb d_PM_longest_73 rfl (lv_at hl 2 rfl) ?_
        have hr := Option.some.inj hf
        exact RET _ _ _ _ _ _ rfl (congrArg (fun r : Int32 × Int32 × (Nat → Int32) × (Nat → Int32) => r.1) hr) (congrArg (fun r : Int32 × Int32 × (Nat → Int32) × (Nat → Int32) => (cs_PM_longest cI cZ a_p0 a_layer a_cabman a_page a_trial a_shows z_text z_readLayer z_readCabman z_book z_kept z_isKept z_seenCabman z_seenFinger z_seenOff z_seenCame z_value r.2.1 v_textSize v_place v_cabmen v_readCabmen v_acts v_seen v_seed v_bestCleaning v_bestLayers v_bestMany v_underMany v_underLeast v_restMany v_restFirst v_layer v_cabman v_page r.2.2.1 r.2.2.2)) hr) hP hD hS d_PM_longest_74
      · have hf := o_neg c1 hf
        refine lv_aload_n hx hb d_PM_longest_38 rfl (lv_at hl 0 rfl) ?_
        refine lv_aload_n hx hb d_PM_longest_39 rfl (lv_at hl 0 rfl) ?_
        refine gf_PM_28 hC hP 0 rfl rfl d_PM_longest_40 ?_
        obtain ⟨r2, h3, hf⟩ := o_bind hf
        refine cVv (rest := []) (wr := [(a_page, .inl (cI, 16, .inl v_page))]) (wn := (cs_PM_longest cI cZ a_p0 a_layer a_cabman a_page a_trial a_shows z_text z_readLayer z_readCabman z_book z_kept z_isKept z_seenCabman z_seenFinger z_seenOff z_seenCame z_value v_thrown v_textSize v_place v_cabmen v_readCabmen v_acts v_seen v_seed v_bestCleaning v_bestLayers v_bestMany v_underMany v_underLeast v_restMany v_restFirst v_layer v_cabman v_page r2.2 r2.1)) (c_PM_goNight l D cI cZ a_p0 a_layer a_cabman a_shows a_trial z_text z_readLayer z_readCabman a_page a_trial z_book z_kept z_isKept z_seenCabman z_seenFinger z_seenOff z_seenCame z_value v_thrown v_textSize v_place v_cabmen v_readCabmen v_acts v_seen v_seed v_bestCleaning v_bestLayers v_bestMany v_underMany v_underLeast v_restMany v_restFirst v_layer v_cabman v_shows v_trial r2 h3) hC hA hP hD hS hl.1 cw_PM_145 0 rfl rfl rfl ⟨Nat.le_of_ble_eq_true rfl, Nat.le_of_ble_eq_true rfl⟩ rfl rfl (Nat.le_of_ble_eq_true rfl) d_PM_longest_43 ⟨Nat.zero_le _, Nat.zero_le _⟩ [0, 1, 2, 5, 4] [3] [1, 2, 3, 0, 5, 4] (by decide) (Cut_mk rfl rfl (by decide) (by decide) (by decide) rfl) (fun H locs hP hD hS => ?_)
        refine lv_aload_n hx hb d_PM_longest_46 rfl (lv_at hl 0 rfl) ?_
        refine gf_PM_28 hC hP 0 rfl rfl d_PM_longest_47 ?_
        refine lv_iconst (v := 4) hx hb d_PM_longest_50 (by decide) ?_
        obtain ⟨v4, h5, hf⟩ := o_bind hf
        refine r_iald hC hP 4 rfl h5 d_PM_longest_51 ?_
        refine lv_iload_n hx hb d_PM_longest_52 rfl (lv_at hl 2 rfl) ?_
        refine lv_icmp_le (tgt := 65) hx hb d_PM_longest_53 (by decide) (fun c6 => ?_) (fun c6 => ?_)
        · have hf := o_pos c6 hf
          refine lv_iload_n hx hb d_PM_longest_65 rfl (lv_at hl 2 rfl) ?_
          exact B_66 back_33 K_33 x1 x3 x2 v_thrown r2.2 r2.1 _ _ _ hP hD hS (lv_sub hl [0, 1, 3] rfl) hf
        · have hf := o_neg c6 hf
          refine lv_aload_n hx hb d_PM_longest_56 rfl (lv_at hl 0 rfl) ?_
          refine gf_PM_28 hC hP 0 rfl rfl d_PM_longest_57 ?_
          refine lv_iconst (v := 4) hx hb d_PM_longest_60 (by decide) ?_
          obtain ⟨v7, h8, hf⟩ := o_bind hf
          refine r_iald hC hP 4 rfl h8 d_PM_longest_61 ?_
          refine lv_goto (tgt := 66) hx hb d_PM_longest_62 (by decide) ?_
          exact B_66 back_33 K_33 x1 x3 v7 v_thrown r2.2 r2.1 _ _ _ hP hD hS (lv_sub hl [0, 1, 3] rfl) hf
  unfold f_PM_longest at hf
  have E : ∀ (H : Heap) (locs : List Loc), va_P D classes (cs_PM_longest cI cZ a_p0 a_layer a_cabman a_page a_trial a_shows z_text z_readLayer z_readCabman z_book z_kept z_isKept z_seenCabman z_seenFinger z_seenOff z_seenCame z_value v_thrown v_textSize v_place v_cabmen v_readCabmen v_acts v_seen v_seed v_bestCleaning v_bestLayers v_bestMany v_underMany v_underLeast v_restMany v_restFirst v_layer v_cabman v_page v_trial v_shows) H → va_S A s.heap H locs → W p l e (rm_ 4 (40 * 4)) s m args below meth c H locs 0 0 Q (F0 m 0 ls []) := by
    intro H locs hP hS
    refine lv_aload_n hx hb d_PM_longest_0 rfl (lv_at hl 0 rfl) ?_
    refine lv_iconst (v := 0) hx hb d_PM_longest_1 (by decide) ?_
    refine pf_PM_59 hC hP hD hS 0 rfl (Nat.le_of_ble_eq_true rfl) d_PM_longest_2 (fun H locs hP hD hS => ?_)
    have hP : va_P D classes (cs_PM_longest cI cZ a_p0 a_layer a_cabman a_page a_trial a_shows z_text z_readLayer z_readCabman z_book z_kept z_isKept z_seenCabman z_seenFinger z_seenOff z_seenCame z_value 0 v_textSize v_place v_cabmen v_readCabmen v_acts v_seen v_seed v_bestCleaning v_bestLayers v_bestMany v_underMany v_underLeast v_restMany v_restFirst v_layer v_cabman v_page v_trial v_shows) H := hP
    have hD : va_D A (cs_PM_longest cI cZ a_p0 a_layer a_cabman a_page a_trial a_shows z_text z_readLayer z_readCabman z_book z_kept z_isKept z_seenCabman z_seenFinger z_seenOff z_seenCame z_value 0 v_textSize v_place v_cabmen v_readCabmen v_acts v_seen v_seed v_bestCleaning v_bestLayers v_bestMany v_underMany v_underLeast v_restMany v_restFirst v_layer v_cabman v_page v_trial v_shows) := hD
    refine lv_iload_n hx hb d_PM_longest_5 rfl (lv_at hl 1 rfl) ?_
    refine lv_i2l (v := Int32.toInt64 i1) hx hb d_PM_longest_6 rfl ?_
    refine lv_lconst (v := 0) hx hb d_PM_longest_7 (by decide) ?_
    refine lv_ldc2 (v := 30) hx hb hown (hts _ g768) d_PM_longest_8 ?_
    obtain ⟨r1, h2, hf⟩ := o_bind hf
    refine cSi0 (rest := []) (c_PM_in l D cI cZ (Int32.toInt64 i1) 0 30 r1 h2) hC hA hP hD hS hl.1 cw_PM_66 ⟨Nat.le_of_ble_eq_true rfl, Nat.le_of_ble_eq_true rfl⟩ rfl rfl (Nat.le_of_ble_eq_true rfl) d_PM_longest_11 ⟨Nat.zero_le _, Nat.zero_le _⟩ (fun H locs hP hS => ?_)
    refine lv_if_ne (tgt := 20) hx hb d_PM_longest_14 (by decide) (fun c3 => ?_) (fun c3 => ?_)
    · have hf := o_neg c3 hf
      refine lv_aload_n hx hb d_PM_longest_20 rfl (lv_at hl 0 rfl) ?_
      obtain ⟨r4, h5, hf⟩ := o_bind hf
      refine cVv (rest := []) (wr := [(a_layer, .inl (cI, 12, .inl v_layer)), (a_cabman, .inl (cI, 30, .inl v_cabman)), (a_shows, .inl (cI, 4, .inl v_shows))]) (wn := (cs_PM_longest cI cZ a_p0 a_layer a_cabman a_page a_trial a_shows z_text z_readLayer z_readCabman z_book z_kept z_isKept z_seenCabman z_seenFinger z_seenOff z_seenCame z_value 0 v_textSize v_place v_cabmen v_readCabmen v_acts v_seen v_seed v_bestCleaning v_bestLayers v_bestMany v_underMany v_underLeast v_restMany v_restFirst v_layer v_cabman v_page r4 v_shows)) (c_PM_begin l D cI cZ a_p0 a_page a_trial z_text a_layer a_cabman z_readLayer z_readCabman z_book z_kept z_isKept z_seenCabman z_seenFinger z_seenOff z_seenCame z_value a_shows 0 v_textSize v_place v_cabmen v_readCabmen v_acts v_seen v_seed v_bestCleaning v_bestLayers v_bestMany v_underMany v_underLeast v_restMany v_restFirst v_page v_trial r4 h5) hC hA hP hD hS hl.1 cw_PM_181 0 rfl rfl rfl ⟨Nat.le_of_ble_eq_true rfl, Nat.le_of_ble_eq_true rfl⟩ rfl rfl (Nat.le_of_ble_eq_true rfl) d_PM_longest_21 ⟨Nat.zero_le _, Nat.zero_le _⟩ [0, 3, 4] [1, 2, 5] [3, 0, 1, 4, 5, 2] (by decide) (Cut_mk rfl rfl (by decide) (by decide) (by decide) rfl) (fun H locs hP hD hS => ?_)
      refine lv_aload_n hx hb d_PM_longest_24 rfl (lv_at hl 0 rfl) ?_
      refine gf_PM_28 hC hP 0 rfl rfl d_PM_longest_25 ?_
      refine lv_iconst (v := 4) hx hb d_PM_longest_28 (by decide) ?_
      obtain ⟨v6, h7, hf⟩ := o_bind hf
      refine r_iald hC hP 4 rfl h7 d_PM_longest_29 ?_
      refine lv_istore_n (lv' := [(2, .int v6), (0, .ref a_p0), (1, .int i1)]) hx hb d_PM_longest_30 rfl hl (by decide) rfl (fun ls hl => ?_)
      refine lv_iconst (v := 0) hx hb d_PM_longest_31 (by decide) ?_
      refine lv_istore_n (lv' := [(3, .int 0), (2, .int v6), (0, .ref a_p0), (1, .int i1)]) hx hb d_PM_longest_32 rfl hl (by decide) rfl (fun ls hl => ?_)
      exact B_33 300 i1 v6 0 0 r4 v_shows _ _ _ hP hD hS (lv_sub hl [2, 3, 1, 0] rfl) hf
    · have hf := o_pos c3 hf
      refine lv_bipush (v := (-2)) hx hb d_PM_longest_17 (by decide) ?_
      have hr := Option.some.inj hf
      exact RET _ _ _ _ _ _ rfl (congrArg (fun r : Int32 × Int32 × (Nat → Int32) × (Nat → Int32) => r.1) hr) (congrArg (fun r : Int32 × Int32 × (Nat → Int32) × (Nat → Int32) => (cs_PM_longest cI cZ a_p0 a_layer a_cabman a_page a_trial a_shows z_text z_readLayer z_readCabman z_book z_kept z_isKept z_seenCabman z_seenFinger z_seenOff z_seenCame z_value r.2.1 v_textSize v_place v_cabmen v_readCabmen v_acts v_seen v_seed v_bestCleaning v_bestLayers v_bestMany v_underMany v_underLeast v_restMany v_restFirst v_layer v_cabman v_page r.2.2.1 r.2.2.2)) hr) hP hD hS d_PM_longest_19
  exact E _ _ hP hS
