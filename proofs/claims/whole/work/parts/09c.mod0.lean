set_option maxHeartbeats 4000000 in
set_option maxRecDepth 100000 in
theorem c_PM_in (l : Launch) (D : va_G) (cI cZ : ClassId) (i0 : Int64) (i2 : Int64) (i4 : Int64) (res : Int32) (hf : f_PM_in i0 i2 i4 = some res) : CtI l y_PM_in b_PM_in 6 (some .boolean) 0 D cI cZ [.long i0, .long i2, .long i4] [] res [] := by
  refine CtI_mk (by decide) (Nat.le_of_ble_eq_true rfl) ?_
  intro p e s m args below meth c A Q hC hA hP hD RET ls hl
  have hC : Cx p s m args meth c b_PM_in 6 R_PM D cI cZ := hC
  have hl : lv_has ls 6 [(0, .long i0), (2, .long i2), (4, .long i4)] := hl
  obtain ⟨hx, hb, hml, hown, hts, hlk, hKK⟩ := id hC
  have hS : va_S A s.heap s.heap [] := va_S.rf
  have B_18 : ∀  (w0 : Int32) (H : Heap) (locs : List Loc) (ls : Array Slot), va_P D classes [] H → va_D A [] → va_S A s.heap H locs → lv_has ls 6 [] → f_PM_in_18   w0 = some res → W p l e (rm_ 0 (40 * 0)) s m args below meth c H locs 0 0 Q (F0 m 18 ls [.int w0]) := by
    intro  w0 H locs ls hP hD hS hl hf
    unfold f_PM_in_18 at hf
    obtain ⟨h1, hf⟩ := o_ite hf
    have hr := Option.some.inj hf
    exact RET _ _ _ _ _ _ (narB h1) (congrArg (fun r : Int32 => r) hr) rfl hP hD hS d_PM_in_18
  have B_17 : ∀   (H : Heap) (locs : List Loc) (ls : Array Slot), va_P D classes [] H → va_D A [] → va_S A s.heap H locs → lv_has ls 6 [] → f_PM_in_17    = some res → W p l e (rm_ 0 (40 * 0)) s m args below meth c H locs 0 0 Q (F0 m 17 ls []) := by
    intro   H locs ls hP hD hS hl hf
    unfold f_PM_in_17 at hf
    refine lv_iconst (v := 0) hx hb d_PM_in_17 (by decide) ?_
    exact B_18 0 _ _ _ hP hD hS (lv_sub hl [] rfl) hf
  unfold f_PM_in at hf
  have E : ∀ (H : Heap) (locs : List Loc), va_P D classes [] H → va_S A s.heap H locs → W p l e (rm_ 0 (40 * 0)) s m args below meth c H locs 0 0 Q (F0 m 0 ls []) := by
    intro H locs hP hS
    refine lv_lload_n hx hb d_PM_in_0 rfl (lv_at hl 0 rfl) ?_
    refine lv_lload_n hx hb d_PM_in_1 rfl (lv_at hl 1 rfl) ?_
    refine W.lcmp hx hb d_PM_in_2 ?_
    refine lv_if_lt (tgt := 17) hx hb d_PM_in_3 (by decide) (fun c1 => ?_) (fun c1 => ?_)
    · have hf := o_pos c1 hf
      exact B_17 _ _ _ hP hD hS (lv_sub hl [] rfl) hf
    · have hf := o_neg c1 hf
      refine lv_lload_n hx hb d_PM_in_6 rfl (lv_at hl 0 rfl) ?_
      refine lv_lload hx hb d_PM_in_7 (lv_at hl 2 rfl) ?_
      refine W.lcmp hx hb d_PM_in_9 ?_
      refine lv_if_gt (tgt := 17) hx hb d_PM_in_10 (by decide) (fun c2 => ?_) (fun c2 => ?_)
      · have hf := o_pos c2 hf
        exact B_17 _ _ _ hP hD hS (lv_sub hl [] rfl) hf
      · have hf := o_neg c2 hf
        refine lv_iconst (v := 1) hx hb d_PM_in_13 (by decide) ?_
        refine lv_goto (tgt := 18) hx hb d_PM_in_14 (by decide) ?_
        exact B_18 1 _ _ _ hP hD hS (lv_sub hl [] rfl) hf
  exact E _ _ hP hS
set_option maxHeartbeats 4000000 in
set_option maxRecDepth 100000 in
theorem c_PM_has (l : Launch) (D : va_G) (cI cZ : ClassId) (i0 : Int32) (i1 : Int32) (res : Int32) (hf : f_PM_has i0 i1 = some res) : CtI l y_PM_has b_PM_has 2 (some .boolean) 0 D cI cZ [.int i0, .int i1] [] res [] := by
  refine CtI_mk (by decide) (Nat.le_of_ble_eq_true rfl) ?_
  intro p e s m args below meth c A Q hC hA hP hD RET ls hl
  have hC : Cx p s m args meth c b_PM_has 2 R_PM D cI cZ := hC
  have hl : lv_has ls 2 [(0, .int i0), (1, .int i1)] := hl
  obtain ⟨hx, hb, hml, hown, hts, hlk, hKK⟩ := id hC
  have hS : va_S A s.heap s.heap [] := va_S.rf
  have B_14 : ∀  (w0 : Int32) (H : Heap) (locs : List Loc) (ls : Array Slot), va_P D classes [] H → va_D A [] → va_S A s.heap H locs → lv_has ls 2 [] → f_PM_has_14   w0 = some res → W p l e (rm_ 0 (40 * 0)) s m args below meth c H locs 0 0 Q (F0 m 14 ls [.int w0]) := by
    intro  w0 H locs ls hP hD hS hl hf
    unfold f_PM_has_14 at hf
    obtain ⟨h1, hf⟩ := o_ite hf
    have hr := Option.some.inj hf
    exact RET _ _ _ _ _ _ (narB h1) (congrArg (fun r : Int32 => r) hr) rfl hP hD hS d_PM_has_14
  unfold f_PM_has at hf
  have E : ∀ (H : Heap) (locs : List Loc), va_P D classes [] H → va_S A s.heap H locs → W p l e (rm_ 0 (40 * 0)) s m args below meth c H locs 0 0 Q (F0 m 0 ls []) := by
    intro H locs hP hS
    refine lv_iload_n hx hb d_PM_has_0 rfl (lv_at hl 0 rfl) ?_
    refine lv_iload_n hx hb d_PM_has_1 rfl (lv_at hl 1 rfl) ?_
    refine lv_ishr hx hb d_PM_has_2 ?_
    refine lv_iconst (v := 1) hx hb d_PM_has_3 (by decide) ?_
    refine lv_iand hx hb d_PM_has_4 ?_
    refine lv_iconst (v := 1) hx hb d_PM_has_5 (by decide) ?_
    refine lv_icmp_ne (tgt := 13) hx hb d_PM_has_6 (by decide) (fun c1 => ?_) (fun c1 => ?_)
    · have hf := o_neg c1 hf
      refine lv_iconst (v := 0) hx hb d_PM_has_13 (by decide) ?_
      exact B_14 0 _ _ _ hP hD hS (lv_sub hl [] rfl) hf
    · have hf := o_pos c1 hf
      refine lv_iconst (v := 1) hx hb d_PM_has_9 (by decide) ?_
      refine lv_goto (tgt := 14) hx hb d_PM_has_10 (by decide) ?_
      exact B_14 1 _ _ _ hP hD hS (lv_sub hl [] rfl) hf
  exact E _ _ hP hS
set_option maxHeartbeats 4000000 in
set_option maxRecDepth 100000 in
theorem c_PM_many (l : Launch) (D : va_G) (cI cZ : ClassId) (i0 : Int32) (res : Int32) (hf : f_PM_many i0 = some res) : CtI l y_PM_many b_PM_many 3 (some .int) 0 D cI cZ [.int i0] [] res [] := by
  refine CtI_mk (by decide) (Nat.le_of_ble_eq_true rfl) ?_
  intro p e s m args below meth c A Q hC hA hP hD RET ls hl
  have hC : Cx p s m args meth c b_PM_many 3 R_PM D cI cZ := hC
  have hl : lv_has ls 3 [(0, .int i0)] := hl
  obtain ⟨hx, hb, hml, hown, hts, hlk, hKK⟩ := id hC
  have hS : va_S A s.heap s.heap [] := va_S.rf
  have B_4 : ∀  (n : Nat) (x0 : Int32) (x1 : Int32) (x2 : Int32) (H : Heap) (locs : List Loc) (ls : Array Slot), va_P D classes [] H → va_D A [] → va_S A s.heap H locs → lv_has ls 3 [(0, .int x0), (1, .int x1), (2, .int x2)] → f_PM_many_4   n x0 x1 x2 = some res → W p l e (rm_ 0 (40 * 0)) s m args below meth c H locs 0 0 Q (F0 m 4 ls []) := by
    intro  n
    induction n with
    | zero => intro x0 x1 x2 H locs ls hP hD hS hl hf; exact nomatch hf
    | succ n ih =>
      intro x0 x1 x2 H locs ls hP hD hS hl hf
      have hf : f_PM_many_4_b  (f_PM_many_4   n)  x0 x1 x2 = some res := hf
      generalize f_PM_many_4   n = back_4 at ih hf
      have K_4 := ih
      unfold f_PM_many_4_b at hf
      refine lv_iload_n hx hb d_PM_many_4 rfl (lv_at hl 2 rfl) ?_
      refine lv_iconst (v := 5) hx hb d_PM_many_5 (by decide) ?_
      refine lv_icmp_ge (tgt := 23) hx hb d_PM_many_6 (by decide) (fun c1 => ?_) (fun c1 => ?_)
      · have hf := o_pos c1 hf
        refine lv_iload_n hx hb d_PM_many_23 rfl (lv_at hl 1 rfl) ?_
        have hr := Option.some.inj hf
        exact RET _ _ _ _ _ _ rfl (congrArg (fun r : Int32 => r) hr) rfl hP hD hS d_PM_many_24
      · have hf := o_neg c1 hf
        refine lv_iload_n hx hb d_PM_many_9 rfl (lv_at hl 1 rfl) ?_
        refine lv_iload_n hx hb d_PM_many_10 rfl (lv_at hl 0 rfl) ?_
        refine lv_iload_n hx hb d_PM_many_11 rfl (lv_at hl 2 rfl) ?_
        refine lv_ishr hx hb d_PM_many_12 ?_
        refine lv_iconst (v := 1) hx hb d_PM_many_13 (by decide) ?_
        refine lv_iand hx hb d_PM_many_14 ?_
        refine lv_iadd hx hb d_PM_many_15 ?_
        refine lv_istore_n (lv' := [(1, .int (x1 + ((srI x0 x2) &&& 1))), (0, .int x0), (2, .int x2)]) hx hb d_PM_many_16 rfl hl (by decide) rfl (fun ls hl => ?_)
        refine lv_iinc (v := x2 + 1) (lv' := [(2, .int (x2 + 1)), (1, .int (x1 + ((srI x0 x2) &&& 1))), (0, .int x0)]) hx hb d_PM_many_17 hl (k := 2) rfl (rfl) (by decide) rfl (fun ls hl => ?_)
        refine lv_goto (tgt := 4) hx hb d_PM_many_20 (by decide) ?_
        exact K_4 x0 (x1 + ((srI x0 x2) &&& 1)) (x2 + 1) _ _ _ hP hD hS (lv_sub hl [2, 1, 0] rfl) hf
  unfold f_PM_many at hf
  have E : ∀ (H : Heap) (locs : List Loc), va_P D classes [] H → va_S A s.heap H locs → W p l e (rm_ 0 (40 * 0)) s m args below meth c H locs 0 0 Q (F0 m 0 ls []) := by
    intro H locs hP hS
    refine lv_iconst (v := 0) hx hb d_PM_many_0 (by decide) ?_
    refine lv_istore_n (lv' := [(1, .int 0), (0, .int i0)]) hx hb d_PM_many_1 rfl hl (by decide) rfl (fun ls hl => ?_)
    refine lv_iconst (v := 0) hx hb d_PM_many_2 (by decide) ?_
    refine lv_istore_n (lv' := [(2, .int 0), (1, .int 0), (0, .int i0)]) hx hb d_PM_many_3 rfl hl (by decide) rfl (fun ls hl => ?_)
    exact B_4 300 i0 0 0 _ _ _ hP hD hS (lv_sub hl [2, 1, 0] rfl) hf
  exact E _ _ hP hS
set_option maxHeartbeats 4000000 in
set_option maxRecDepth 100000 in
theorem c_PM_noCabman (l : Launch) (D : va_G) (cI cZ : ClassId) (a_p0 z_text z_layer z_cabman z_readLayer z_readCabman z_page z_trial z_book z_kept z_isKept z_seenCabman z_seenFinger z_seenOff z_seenCame z_value z_shows : Nat) (i1 : Int32) (v_thrown : Int32) (v_textSize : Int32) (v_place : Int32) (v_cabmen : Int32) (v_readCabmen : Int32) (v_acts : Int32) (v_seen : Int32) (v_seed : Int64) (v_bestCleaning : Int32) (v_bestLayers : Int32) (v_bestMany : Int32) (v_underMany : Int32) (v_underLeast : Int32) (v_restMany : Int32) (v_restFirst : Int32) (res : Int32) (hf : f_PM_noCabman i1 v_cabmen = some res) : CtI l y_PM_noCabman b_PM_noCabman 2 (some .boolean) 1 D cI cZ [.ref a_p0, .int i1] (cs_PM_noCabman cI cZ a_p0 z_text z_layer z_cabman z_readLayer z_readCabman z_page z_trial z_book z_kept z_isKept z_seenCabman z_seenFinger z_seenOff z_seenCame z_value z_shows v_thrown v_textSize v_place v_cabmen v_readCabmen v_acts v_seen v_seed v_bestCleaning v_bestLayers v_bestMany v_underMany v_underLeast v_restMany v_restFirst) res (cs_PM_noCabman cI cZ a_p0 z_text z_layer z_cabman z_readLayer z_readCabman z_page z_trial z_book z_kept z_isKept z_seenCabman z_seenFinger z_seenOff z_seenCame z_value z_shows v_thrown v_textSize v_place v_cabmen v_readCabmen v_acts v_seen v_seed v_bestCleaning v_bestLayers v_bestMany v_underMany v_underLeast v_restMany v_restFirst) := by
  refine CtI_mk (by decide) (Nat.le_of_ble_eq_true rfl) ?_
  intro p e s m args below meth c A Q hC hA hP hD RET ls hl
  have hC : Cx p s m args meth c b_PM_noCabman 2 R_PM D cI cZ := hC
  have hl : lv_has ls 2 [(0, .ref a_p0), (1, .int i1)] := hl
  obtain ⟨hx, hb, hml, hown, hts, hlk, hKK⟩ := id hC
  have hS : va_S A s.heap s.heap [] := va_S.rf
  have B_21 : ∀  (w0 : Int32) (H : Heap) (locs : List Loc) (ls : Array Slot), va_P D classes (cs_PM_noCabman cI cZ a_p0 z_text z_layer z_cabman z_readLayer z_readCabman z_page z_trial z_book z_kept z_isKept z_seenCabman z_seenFinger z_seenOff z_seenCame z_value z_shows v_thrown v_textSize v_place v_cabmen v_readCabmen v_acts v_seen v_seed v_bestCleaning v_bestLayers v_bestMany v_underMany v_underLeast v_restMany v_restFirst) H → va_D A (cs_PM_noCabman cI cZ a_p0 z_text z_layer z_cabman z_readLayer z_readCabman z_page z_trial z_book z_kept z_isKept z_seenCabman z_seenFinger z_seenOff z_seenCame z_value z_shows v_thrown v_textSize v_place v_cabmen v_readCabmen v_acts v_seen v_seed v_bestCleaning v_bestLayers v_bestMany v_underMany v_underLeast v_restMany v_restFirst) → va_S A s.heap H locs → lv_has ls 2 [] → f_PM_noCabman_21  v_cabmen w0 = some res → W p l e (rm_ 1 (40 * 1)) s m args below meth c H locs 0 0 Q (F0 m 21 ls [.int w0]) := by
    intro  w0 H locs ls hP hD hS hl hf
    unfold f_PM_noCabman_21 at hf
    obtain ⟨h1, hf⟩ := o_ite hf
    have hr := Option.some.inj hf
    exact RET _ _ _ _ _ _ (narB h1) (congrArg (fun r : Int32 => r) hr) rfl hP hD hS d_PM_noCabman_21
  unfold f_PM_noCabman at hf
  have E : ∀ (H : Heap) (locs : List Loc), va_P D classes (cs_PM_noCabman cI cZ a_p0 z_text z_layer z_cabman z_readLayer z_readCabman z_page z_trial z_book z_kept z_isKept z_seenCabman z_seenFinger z_seenOff z_seenCame z_value z_shows v_thrown v_textSize v_place v_cabmen v_readCabmen v_acts v_seen v_seed v_bestCleaning v_bestLayers v_bestMany v_underMany v_underLeast v_restMany v_restFirst) H → va_S A s.heap H locs → W p l e (rm_ 1 (40 * 1)) s m args below meth c H locs 0 0 Q (F0 m 0 ls []) := by
    intro H locs hP hS
    refine lv_iload_n hx hb d_PM_noCabman_0 rfl (lv_at hl 1 rfl) ?_
    refine lv_i2l (v := Int32.toInt64 i1) hx hb d_PM_noCabman_1 rfl ?_
    refine lv_lconst (v := 0) hx hb d_PM_noCabman_2 (by decide) ?_
    refine lv_aload_n hx hb d_PM_noCabman_3 rfl (lv_at hl 0 rfl) ?_
    refine gf_PM_63 hC hP 0 rfl rfl d_PM_noCabman_4 ?_
    refine lv_iconst (v := 1) hx hb d_PM_noCabman_7 (by decide) ?_
    refine lv_isub hx hb d_PM_noCabman_8 ?_
    refine lv_i2l (v := Int32.toInt64 (v_cabmen - 1)) hx hb d_PM_noCabman_9 rfl ?_
    obtain ⟨r1, h2, hf⟩ := o_bind hf
    refine cSi0 (rest := []) (c_PM_in l D cI cZ (Int32.toInt64 i1) 0 (Int32.toInt64 (v_cabmen - 1)) r1 h2) hC hA hP hD hS hl.1 cw_PM_66 ⟨Nat.le_of_ble_eq_true rfl, Nat.le_of_ble_eq_true rfl⟩ rfl rfl (Nat.le_of_ble_eq_true rfl) d_PM_noCabman_10 ⟨Nat.zero_le _, Nat.zero_le _⟩ (fun H locs hP hS => ?_)
    refine lv_if_ne (tgt := 20) hx hb d_PM_noCabman_13 (by decide) (fun c3 => ?_) (fun c3 => ?_)
    · have hf := o_neg c3 hf
      refine lv_iconst (v := 0) hx hb d_PM_noCabman_20 (by decide) ?_
      exact B_21 0 _ _ _ hP hD hS (lv_sub hl [] rfl) hf
    · have hf := o_pos c3 hf
      refine lv_iconst (v := 1) hx hb d_PM_noCabman_16 (by decide) ?_
      refine lv_goto (tgt := 21) hx hb d_PM_noCabman_17 (by decide) ?_
      exact B_21 1 _ _ _ hP hD hS (lv_sub hl [] rfl) hf
  exact E _ _ hP hS
set_option maxHeartbeats 4000000 in
set_option maxRecDepth 100000 in
theorem c_PM_noFinger (l : Launch) (D : va_G) (cI cZ : ClassId) (i0 : Int32) (res : Int32) (hf : f_PM_noFinger i0 = some res) : CtI l y_PM_noFinger b_PM_noFinger 1 (some .boolean) 1 D cI cZ [.int i0] [] res [] := by
  refine CtI_mk (by decide) (Nat.le_of_ble_eq_true rfl) ?_
  intro p e s m args below meth c A Q hC hA hP hD RET ls hl
  have hC : Cx p s m args meth c b_PM_noFinger 1 R_PM D cI cZ := hC
  have hl : lv_has ls 1 [(0, .int i0)] := hl
  obtain ⟨hx, hb, hml, hown, hts, hlk, hKK⟩ := id hC
  have hS : va_S A s.heap s.heap [] := va_S.rf
  have B_17 : ∀  (w0 : Int32) (H : Heap) (locs : List Loc) (ls : Array Slot), va_P D classes [] H → va_D A [] → va_S A s.heap H locs → lv_has ls 1 [] → f_PM_noFinger_17   w0 = some res → W p l e (rm_ 1 (40 * 1)) s m args below meth c H locs 0 0 Q (F0 m 17 ls [.int w0]) := by
    intro  w0 H locs ls hP hD hS hl hf
    unfold f_PM_noFinger_17 at hf
    obtain ⟨h1, hf⟩ := o_ite hf
    have hr := Option.some.inj hf
    exact RET _ _ _ _ _ _ (narB h1) (congrArg (fun r : Int32 => r) hr) rfl hP hD hS d_PM_noFinger_17
  unfold f_PM_noFinger at hf
  have E : ∀ (H : Heap) (locs : List Loc), va_P D classes [] H → va_S A s.heap H locs → W p l e (rm_ 1 (40 * 1)) s m args below meth c H locs 0 0 Q (F0 m 0 ls []) := by
    intro H locs hP hS
    refine lv_iload_n hx hb d_PM_noFinger_0 rfl (lv_at hl 0 rfl) ?_
    refine lv_i2l (v := Int32.toInt64 i0) hx hb d_PM_noFinger_1 rfl ?_
    refine lv_lconst (v := 0) hx hb d_PM_noFinger_2 (by decide) ?_
    refine lv_ldc2 (v := 3) hx hb hown (hts _ g673) d_PM_noFinger_3 ?_
    obtain ⟨r1, h2, hf⟩ := o_bind hf
    refine cSi0 (rest := []) (c_PM_in l D cI cZ (Int32.toInt64 i0) 0 3 r1 h2) hC hA hP hD hS hl.1 cw_PM_66 ⟨Nat.le_of_ble_eq_true rfl, Nat.le_of_ble_eq_true rfl⟩ rfl rfl (Nat.le_of_ble_eq_true rfl) d_PM_noFinger_6 ⟨Nat.zero_le _, Nat.zero_le _⟩ (fun H locs hP hS => ?_)
    refine lv_if_ne (tgt := 16) hx hb d_PM_noFinger_9 (by decide) (fun c3 => ?_) (fun c3 => ?_)
    · have hf := o_neg c3 hf
      refine lv_iconst (v := 0) hx hb d_PM_noFinger_16 (by decide) ?_
      exact B_17 0 _ _ _ hP hD hS (lv_sub hl [] rfl) hf
    · have hf := o_pos c3 hf
      refine lv_iconst (v := 1) hx hb d_PM_noFinger_12 (by decide) ?_
      refine lv_goto (tgt := 17) hx hb d_PM_noFinger_13 (by decide) ?_
      exact B_17 1 _ _ _ hP hD hS (lv_sub hl [] rfl) hf
  exact E _ _ hP hS
set_option maxHeartbeats 4000000 in
set_option maxRecDepth 100000 in
theorem c_PM_write (l : Launch) (D : va_G) (cI cZ : ClassId) (a_p0 a_text z_layer z_cabman z_readLayer z_readCabman z_page z_trial z_book z_kept z_isKept z_seenCabman z_seenFinger z_seenOff z_seenCame z_value z_shows : Nat) (i1 : Int32) (v_thrown : Int32) (v_textSize : Int32) (v_place : Int32) (v_cabmen : Int32) (v_readCabmen : Int32) (v_acts : Int32) (v_seen : Int32) (v_seed : Int64) (v_bestCleaning : Int32) (v_bestLayers : Int32) (v_bestMany : Int32) (v_underMany : Int32) (v_underLeast : Int32) (v_restMany : Int32) (v_restFirst : Int32) (v_text : Nat → Int32) (res : Int32 × Int32 × Int32 × (Nat → Int32)) (hf : f_PM_write i1 v_thrown v_textSize v_text = some res) : CtI l y_PM_write b_PM_write 2 (some .int) 1 D cI cZ [.ref a_p0, .int i1] (cs_PM_write cI cZ a_p0 a_text z_layer z_cabman z_readLayer z_readCabman z_page z_trial z_book z_kept z_isKept z_seenCabman z_seenFinger z_seenOff z_seenCame z_value z_shows v_thrown v_textSize v_place v_cabmen v_readCabmen v_acts v_seen v_seed v_bestCleaning v_bestLayers v_bestMany v_underMany v_underLeast v_restMany v_restFirst v_text) res.1 (cs_PM_write cI cZ a_p0 a_text z_layer z_cabman z_readLayer z_readCabman z_page z_trial z_book z_kept z_isKept z_seenCabman z_seenFinger z_seenOff z_seenCame z_value z_shows res.2.1 res.2.2.1 v_place v_cabmen v_readCabmen v_acts v_seen v_seed v_bestCleaning v_bestLayers v_bestMany v_underMany v_underLeast v_restMany v_restFirst res.2.2.2) := by
  refine CtI_mk (by decide) (Nat.le_of_ble_eq_true rfl) ?_
  intro p e s m args below meth c A Q hC hA hP hD RET ls hl
  have hC : Cx p s m args meth c b_PM_write 2 R_PM D cI cZ := hC
  have hl : lv_has ls 2 [(0, .ref a_p0), (1, .int i1)] := hl
  obtain ⟨hx, hb, hml, hown, hts, hlk, hKK⟩ := id hC
  have hS : va_S A s.heap s.heap [] := va_S.rf
  unfold f_PM_write at hf
  have E : ∀ (H : Heap) (locs : List Loc), va_P D classes (cs_PM_write cI cZ a_p0 a_text z_layer z_cabman z_readLayer z_readCabman z_page z_trial z_book z_kept z_isKept z_seenCabman z_seenFinger z_seenOff z_seenCame z_value z_shows v_thrown v_textSize v_place v_cabmen v_readCabmen v_acts v_seen v_seed v_bestCleaning v_bestLayers v_bestMany v_underMany v_underLeast v_restMany v_restFirst v_text) H → va_S A s.heap H locs → W p l e (rm_ 1 (40 * 1)) s m args below meth c H locs 0 0 Q (F0 m 0 ls []) := by
    intro H locs hP hS
    refine lv_aload_n hx hb d_PM_write_0 rfl (lv_at hl 0 rfl) ?_
    refine lv_iconst (v := 0) hx hb d_PM_write_1 (by decide) ?_
    refine pf_PM_59 hC hP hD hS 0 rfl (Nat.le_of_ble_eq_true rfl) d_PM_write_2 (fun H locs hP hD hS => ?_)
    have hP : va_P D classes (cs_PM_write cI cZ a_p0 a_text z_layer z_cabman z_readLayer z_readCabman z_page z_trial z_book z_kept z_isKept z_seenCabman z_seenFinger z_seenOff z_seenCame z_value z_shows 0 v_textSize v_place v_cabmen v_readCabmen v_acts v_seen v_seed v_bestCleaning v_bestLayers v_bestMany v_underMany v_underLeast v_restMany v_restFirst v_text) H := hP
    have hD : va_D A (cs_PM_write cI cZ a_p0 a_text z_layer z_cabman z_readLayer z_readCabman z_page z_trial z_book z_kept z_isKept z_seenCabman z_seenFinger z_seenOff z_seenCame z_value z_shows 0 v_textSize v_place v_cabmen v_readCabmen v_acts v_seen v_seed v_bestCleaning v_bestLayers v_bestMany v_underMany v_underLeast v_restMany v_restFirst v_text) := hD
    refine lv_iload_n hx hb d_PM_write_5 rfl (lv_at hl 1 rfl) ?_
    refine lv_i2l (v := Int32.toInt64 i1) hx hb d_PM_write_6 rfl ?_
    refine lv_lconst (v := 0) hx hb d_PM_write_7 (by decide) ?_
    refine lv_ldc2 (v := 255) hx hb hown (hts _ g610) d_PM_write_8 ?_
    obtain ⟨r1, h2, hf⟩ := o_bind hf
    refine cSi0 (rest := []) (c_PM_in l D cI cZ (Int32.toInt64 i1) 0 255 r1 h2) hC hA hP hD hS hl.1 cw_PM_66 ⟨Nat.le_of_ble_eq_true rfl, Nat.le_of_ble_eq_true rfl⟩ rfl rfl (Nat.le_of_ble_eq_true rfl) d_PM_write_11 ⟨Nat.zero_le _, Nat.zero_le _⟩ (fun H locs hP hS => ?_)
    refine lv_if_ne (tgt := 20) hx hb d_PM_write_14 (by decide) (fun c3 => ?_) (fun c3 => ?_)
    · have hf := o_neg c3 hf
      refine lv_aload_n hx hb d_PM_write_20 rfl (lv_at hl 0 rfl) ?_
      refine gf_PM_74 hC hP 0 rfl rfl d_PM_write_21 ?_
      refine lv_bipush (v := 48) hx hb d_PM_write_24 (by decide) ?_
      refine lv_icmp_ne (tgt := 32) hx hb d_PM_write_26 (by decide) (fun c4 => ?_) (fun c4 => ?_)
      · have hf := o_neg c4 hf
        refine lv_aload_n hx hb d_PM_write_32 rfl (lv_at hl 0 rfl) ?_
        refine gf_PM_7 hC hP 0 rfl rfl d_PM_write_33 ?_
        refine lv_aload_n hx hb d_PM_write_36 rfl (lv_at hl 0 rfl) ?_
        refine gf_PM_74 hC hP 0 rfl rfl d_PM_write_37 ?_
        refine lv_iload_n hx hb d_PM_write_40 rfl (lv_at hl 1 rfl) ?_
        obtain ⟨g5, h6, hf⟩ := o_bind hf
        refine r_iast hC hP hD hS 1 rfl h6 d_PM_write_41 (fun H locs hP hD hS => ?_)
        have hP : va_P D classes (cs_PM_write cI cZ a_p0 a_text z_layer z_cabman z_readLayer z_readCabman z_page z_trial z_book z_kept z_isKept z_seenCabman z_seenFinger z_seenOff z_seenCame z_value z_shows 0 v_textSize v_place v_cabmen v_readCabmen v_acts v_seen v_seed v_bestCleaning v_bestLayers v_bestMany v_underMany v_underLeast v_restMany v_restFirst g5) H := hP
        have hD : va_D A (cs_PM_write cI cZ a_p0 a_text z_layer z_cabman z_readLayer z_readCabman z_page z_trial z_book z_kept z_isKept z_seenCabman z_seenFinger z_seenOff z_seenCame z_value z_shows 0 v_textSize v_place v_cabmen v_readCabmen v_acts v_seen v_seed v_bestCleaning v_bestLayers v_bestMany v_underMany v_underLeast v_restMany v_restFirst g5) := hD
        refine lv_aload_n hx hb d_PM_write_42 rfl (lv_at hl 0 rfl) ?_
        refine lv_dup hx hb d_PM_write_43 rfl ?_
        refine gf_PM_74 hC hP 0 rfl rfl d_PM_write_44 ?_
        refine lv_iconst (v := 1) hx hb d_PM_write_47 (by decide) ?_
        refine lv_iadd hx hb d_PM_write_48 ?_
        refine pf_PM_74 hC hP hD hS 0 rfl (Nat.le_of_ble_eq_true rfl) d_PM_write_49 (fun H locs hP hD hS => ?_)
        have hP : va_P D classes (cs_PM_write cI cZ a_p0 a_text z_layer z_cabman z_readLayer z_readCabman z_page z_trial z_book z_kept z_isKept z_seenCabman z_seenFinger z_seenOff z_seenCame z_value z_shows 0 (v_textSize + 1) v_place v_cabmen v_readCabmen v_acts v_seen v_seed v_bestCleaning v_bestLayers v_bestMany v_underMany v_underLeast v_restMany v_restFirst g5) H := hP
        have hD : va_D A (cs_PM_write cI cZ a_p0 a_text z_layer z_cabman z_readLayer z_readCabman z_page z_trial z_book z_kept z_isKept z_seenCabman z_seenFinger z_seenOff z_seenCame z_value z_shows 0 (v_textSize + 1) v_place v_cabmen v_readCabmen v_acts v_seen v_seed v_bestCleaning v_bestLayers v_bestMany v_underMany v_underLeast v_restMany v_restFirst g5) := hD
        refine lv_aload_n hx hb d_PM_write_52 rfl (lv_at hl 0 rfl) ?_
        refine gf_PM_74 hC hP 0 rfl rfl d_PM_write_53 ?_
        have hr := Option.some.inj hf
        exact RET _ _ _ _ _ _ rfl (congrArg (fun r : Int32 × Int32 × Int32 × (Nat → Int32) => r.1) hr) (congrArg (fun r : Int32 × Int32 × Int32 × (Nat → Int32) => (cs_PM_write cI cZ a_p0 a_text z_layer z_cabman z_readLayer z_readCabman z_page z_trial z_book z_kept z_isKept z_seenCabman z_seenFinger z_seenOff z_seenCame z_value z_shows r.2.1 r.2.2.1 v_place v_cabmen v_readCabmen v_acts v_seen v_seed v_bestCleaning v_bestLayers v_bestMany v_underMany v_underLeast v_restMany v_restFirst r.2.2.2)) hr) hP hD hS d_PM_write_56
      · have hf := o_pos c4 hf
        refine lv_bipush (v := (-4)) hx hb d_PM_write_29 (by decide) ?_
        have hr := Option.some.inj hf
        exact RET _ _ _ _ _ _ rfl (congrArg (fun r : Int32 × Int32 × Int32 × (Nat → Int32) => r.1) hr) (congrArg (fun r : Int32 × Int32 × Int32 × (Nat → Int32) => (cs_PM_write cI cZ a_p0 a_text z_layer z_cabman z_readLayer z_readCabman z_page z_trial z_book z_kept z_isKept z_seenCabman z_seenFinger z_seenOff z_seenCame z_value z_shows r.2.1 r.2.2.1 v_place v_cabmen v_readCabmen v_acts v_seen v_seed v_bestCleaning v_bestLayers v_bestMany v_underMany v_underLeast v_restMany v_restFirst r.2.2.2)) hr) hP hD hS d_PM_write_31
    · have hf := o_pos c3 hf
      refine lv_bipush (v := (-2)) hx hb d_PM_write_17 (by decide) ?_
      have hr := Option.some.inj hf
      exact RET _ _ _ _ _ _ rfl (congrArg (fun r : Int32 × Int32 × Int32 × (Nat → Int32) => r.1) hr) (congrArg (fun r : Int32 × Int32 × Int32 × (Nat → Int32) => (cs_PM_write cI cZ a_p0 a_text z_layer z_cabman z_readLayer z_readCabman z_page z_trial z_book z_kept z_isKept z_seenCabman z_seenFinger z_seenOff z_seenCame z_value z_shows r.2.1 r.2.2.1 v_place v_cabmen v_readCabmen v_acts v_seen v_seed v_bestCleaning v_bestLayers v_bestMany v_underMany v_underLeast v_restMany v_restFirst r.2.2.2)) hr) hP hD hS d_PM_write_19
  exact E _ _ hP hS
set_option maxHeartbeats 4000000 in
set_option maxRecDepth 100000 in
theorem c_PM_wipe (l : Launch) (D : va_G) (cI cZ : ClassId) (a_p0 z_text z_layer z_cabman z_readLayer z_readCabman z_page z_trial z_book z_kept z_isKept z_seenCabman z_seenFinger z_seenOff z_seenCame z_value z_shows : Nat) (v_thrown : Int32) (v_textSize : Int32) (v_place : Int32) (v_cabmen : Int32) (v_readCabmen : Int32) (v_acts : Int32) (v_seen : Int32) (v_seed : Int64) (v_bestCleaning : Int32) (v_bestLayers : Int32) (v_bestMany : Int32) (v_underMany : Int32) (v_underLeast : Int32) (v_restMany : Int32) (v_restFirst : Int32) (res : Int32 × Int32 × Int32) (hf : f_PM_wipe v_thrown v_textSize = some res) : CtI l y_PM_wipe b_PM_wipe 2 (some .int) 0 D cI cZ [.ref a_p0] (cs_PM_wipe cI cZ a_p0 z_text z_layer z_cabman z_readLayer z_readCabman z_page z_trial z_book z_kept z_isKept z_seenCabman z_seenFinger z_seenOff z_seenCame z_value z_shows v_thrown v_textSize v_place v_cabmen v_readCabmen v_acts v_seen v_seed v_bestCleaning v_bestLayers v_bestMany v_underMany v_underLeast v_restMany v_restFirst) res.1 (cs_PM_wipe cI cZ a_p0 z_text z_layer z_cabman z_readLayer z_readCabman z_page z_trial z_book z_kept z_isKept z_seenCabman z_seenFinger z_seenOff z_seenCame z_value z_shows res.2.1 res.2.2 v_place v_cabmen v_readCabmen v_acts v_seen v_seed v_bestCleaning v_bestLayers v_bestMany v_underMany v_underLeast v_restMany v_restFirst) := by
  refine CtI_mk (by decide) (Nat.le_of_ble_eq_true rfl) ?_
  intro p e s m args below meth c A Q hC hA hP hD RET ls hl
  have hC : Cx p s m args meth c b_PM_wipe 2 R_PM D cI cZ := hC
  have hl : lv_has ls 2 [(0, .ref a_p0)] := hl
  obtain ⟨hx, hb, hml, hown, hts, hlk, hKK⟩ := id hC
  have hS : va_S A s.heap s.heap [] := va_S.rf
  unfold f_PM_wipe at hf
  have E : ∀ (H : Heap) (locs : List Loc), va_P D classes (cs_PM_wipe cI cZ a_p0 z_text z_layer z_cabman z_readLayer z_readCabman z_page z_trial z_book z_kept z_isKept z_seenCabman z_seenFinger z_seenOff z_seenCame z_value z_shows v_thrown v_textSize v_place v_cabmen v_readCabmen v_acts v_seen v_seed v_bestCleaning v_bestLayers v_bestMany v_underMany v_underLeast v_restMany v_restFirst) H → va_S A s.heap H locs → W p l e (rm_ 0 (40 * 0)) s m args below meth c H locs 0 0 Q (F0 m 0 ls []) := by
    intro H locs hP hS
    refine lv_aload_n hx hb d_PM_wipe_0 rfl (lv_at hl 0 rfl) ?_
    refine lv_iconst (v := 0) hx hb d_PM_wipe_1 (by decide) ?_
    refine pf_PM_59 hC hP hD hS 0 rfl (Nat.le_of_ble_eq_true rfl) d_PM_wipe_2 (fun H locs hP hD hS => ?_)
    have hP : va_P D classes (cs_PM_wipe cI cZ a_p0 z_text z_layer z_cabman z_readLayer z_readCabman z_page z_trial z_book z_kept z_isKept z_seenCabman z_seenFinger z_seenOff z_seenCame z_value z_shows 0 v_textSize v_place v_cabmen v_readCabmen v_acts v_seen v_seed v_bestCleaning v_bestLayers v_bestMany v_underMany v_underLeast v_restMany v_restFirst) H := hP
    have hD : va_D A (cs_PM_wipe cI cZ a_p0 z_text z_layer z_cabman z_readLayer z_readCabman z_page z_trial z_book z_kept z_isKept z_seenCabman z_seenFinger z_seenOff z_seenCame z_value z_shows 0 v_textSize v_place v_cabmen v_readCabmen v_acts v_seen v_seed v_bestCleaning v_bestLayers v_bestMany v_underMany v_underLeast v_restMany v_restFirst) := hD
    refine lv_aload_n hx hb d_PM_wipe_5 rfl (lv_at hl 0 rfl) ?_
    refine gf_PM_74 hC hP 0 rfl rfl d_PM_wipe_6 ?_
    refine lv_istore_n (lv' := [(1, .int v_textSize), (0, .ref a_p0)]) hx hb d_PM_wipe_9 rfl hl (by decide) rfl (fun ls hl => ?_)
    refine lv_aload_n hx hb d_PM_wipe_10 rfl (lv_at hl 1 rfl) ?_
    refine lv_iconst (v := 0) hx hb d_PM_wipe_11 (by decide) ?_
    refine pf_PM_74 hC hP hD hS 0 rfl (Nat.le_of_ble_eq_true rfl) d_PM_wipe_12 (fun H locs hP hD hS => ?_)
    have hP : va_P D classes (cs_PM_wipe cI cZ a_p0 z_text z_layer z_cabman z_readLayer z_readCabman z_page z_trial z_book z_kept z_isKept z_seenCabman z_seenFinger z_seenOff z_seenCame z_value z_shows 0 0 v_place v_cabmen v_readCabmen v_acts v_seen v_seed v_bestCleaning v_bestLayers v_bestMany v_underMany v_underLeast v_restMany v_restFirst) H := hP
    have hD : va_D A (cs_PM_wipe cI cZ a_p0 z_text z_layer z_cabman z_readLayer z_readCabman z_page z_trial z_book z_kept z_isKept z_seenCabman z_seenFinger z_seenOff z_seenCame z_value z_shows 0 0 v_place v_cabmen v_readCabmen v_acts v_seen v_seed v_bestCleaning v_bestLayers v_bestMany v_underMany v_underLeast v_restMany v_restFirst) := hD
    refine lv_iload_n hx hb d_PM_wipe_15 rfl (lv_at hl 0 rfl) ?_
    have hr := Option.some.inj hf
    exact RET _ _ _ _ _ _ rfl (congrArg (fun r : Int32 × Int32 × Int32 => r.1) hr) (congrArg (fun r : Int32 × Int32 × Int32 => (cs_PM_wipe cI cZ a_p0 z_text z_layer z_cabman z_readLayer z_readCabman z_page z_trial z_book z_kept z_isKept z_seenCabman z_seenFinger z_seenOff z_seenCame z_value z_shows r.2.1 r.2.2 v_place v_cabmen v_readCabmen v_acts v_seen v_seed v_bestCleaning v_bestLayers v_bestMany v_underMany v_underLeast v_restMany v_restFirst)) hr) hP hD hS d_PM_wipe_16
  exact E _ _ hP hS
set_option maxHeartbeats 4000000 in
set_option maxRecDepth 100000 in
theorem c_PM_figure (l : Launch) (D : va_G) (cI cZ : ClassId) (a_p0 a_text z_layer z_cabman z_readLayer z_readCabman z_page z_trial z_book z_kept z_isKept z_seenCabman z_seenFinger z_seenOff z_seenCame z_value z_shows : Nat) (i1 : Int32) (i2 : Int32) (v_thrown : Int32) (v_textSize : Int32) (v_place : Int32) (v_cabmen : Int32) (v_readCabmen : Int32) (v_acts : Int32) (v_seen : Int32) (v_seed : Int64) (v_bestCleaning : Int32) (v_bestLayers : Int32) (v_bestMany : Int32) (v_underMany : Int32) (v_underLeast : Int32) (v_restMany : Int32) (v_restFirst : Int32) (v_text : Nat → Int32) (res : Int32 × Int32) (hf : f_PM_figure i1 i2 v_textSize v_text v_place = some res) : CtI l y_PM_figure b_PM_figure 3 (some .int) 1 D cI cZ [.ref a_p0, .int i1, .int i2] (cs_PM_figure cI cZ a_p0 a_text z_layer z_cabman z_readLayer z_readCabman z_page z_trial z_book z_kept z_isKept z_seenCabman z_seenFinger z_seenOff z_seenCame z_value z_shows v_thrown v_textSize v_place v_cabmen v_readCabmen v_acts v_seen v_seed v_bestCleaning v_bestLayers v_bestMany v_underMany v_underLeast v_restMany v_restFirst v_text) res.1 (cs_PM_figure cI cZ a_p0 a_text z_layer z_cabman z_readLayer z_readCabman z_page z_trial z_book z_kept z_isKept z_seenCabman z_seenFinger z_seenOff z_seenCame z_value z_shows v_thrown v_textSize res.2 v_cabmen v_readCabmen v_acts v_seen v_seed v_bestCleaning v_bestLayers v_bestMany v_underMany v_underLeast v_restMany v_restFirst v_text) := by
  refine CtI_mk (by decide) (Nat.le_of_ble_eq_true rfl) ?_
  intro p e s m args below meth c A Q hC hA hP hD RET ls hl
  have hC : Cx p s m args meth c b_PM_figure 3 R_PM D cI cZ := hC
  have hl : lv_has ls 3 [(0, .ref a_p0), (1, .int i1), (2, .int i2)] := hl
  obtain ⟨hx, hb, hml, hown, hts, hlk, hKK⟩ := id hC
  have hS : va_S A s.heap s.heap [] := va_S.rf
  have B_34 : ∀  (v_place : Int32) (H : Heap) (locs : List Loc) (ls : Array Slot), va_P D classes (cs_PM_figure cI cZ a_p0 a_text z_layer z_cabman z_readLayer z_readCabman z_page z_trial z_book z_kept z_isKept z_seenCabman z_seenFinger z_seenOff z_seenCame z_value z_shows v_thrown v_textSize v_place v_cabmen v_readCabmen v_acts v_seen v_seed v_bestCleaning v_bestLayers v_bestMany v_underMany v_underLeast v_restMany v_restFirst v_text) H → va_D A (cs_PM_figure cI cZ a_p0 a_text z_layer z_cabman z_readLayer z_readCabman z_page z_trial z_book z_kept z_isKept z_seenCabman z_seenFinger z_seenOff z_seenCame z_value z_shows v_thrown v_textSize v_place v_cabmen v_readCabmen v_acts v_seen v_seed v_bestCleaning v_bestLayers v_bestMany v_underMany v_underLeast v_restMany v_restFirst v_text) → va_S A s.heap H locs → lv_has ls 3 [] → f_PM_figure_34  v_textSize v_text v_place = some res → W p l e (rm_ 1 (40 * 1)) s m args below meth c H locs 0 0 Q (F0 m 34 ls []) := by
    intro  v_place H locs ls hP hD hS hl hf
    unfold f_PM_figure_34 at hf
    refine lv_bipush (v := (-9)) hx hb d_PM_figure_34 (by decide) ?_
    have hr := Option.some.inj hf
    exact RET _ _ _ _ _ _ rfl (congrArg (fun r : Int32 × Int32 => r.1) hr) (congrArg (fun r : Int32 × Int32 => (cs_PM_figure cI cZ a_p0 a_text z_layer z_cabman z_readLayer z_readCabman z_page z_trial z_book z_kept z_isKept z_seenCabman z_seenFinger z_seenOff z_seenCame z_value z_shows v_thrown v_textSize r.2 v_cabmen v_readCabmen v_acts v_seen v_seed v_bestCleaning v_bestLayers v_bestMany v_underMany v_underLeast v_restMany v_restFirst v_text)) hr) hP hD hS d_PM_figure_36
  unfold f_PM_figure at hf
  have E : ∀ (H : Heap) (locs : List Loc), va_P D classes (cs_PM_figure cI cZ a_p0 a_text z_layer z_cabman z_readLayer z_readCabman z_page z_trial z_book z_kept z_isKept z_seenCabman z_seenFinger z_seenOff z_seenCame z_value z_shows v_thrown v_textSize v_place v_cabmen v_readCabmen v_acts v_seen v_seed v_bestCleaning v_bestLayers v_bestMany v_underMany v_underLeast v_restMany v_restFirst v_text) H → va_S A s.heap H locs → W p l e (rm_ 1 (40 * 1)) s m args below meth c H locs 0 0 Q (F0 m 0 ls []) := by
    intro H locs hP hS
    refine lv_aload_n hx hb d_PM_figure_0 rfl (lv_at hl 0 rfl) ?_
    refine gf_PM_77 hC hP 0 rfl rfl d_PM_figure_1 ?_
    refine lv_aload_n hx hb d_PM_figure_4 rfl (lv_at hl 0 rfl) ?_
    refine gf_PM_74 hC hP 0 rfl rfl d_PM_figure_5 ?_
    refine lv_icmp_eq (tgt := 34) hx hb d_PM_figure_8 (by decide) (fun c1 => ?_) (fun c1 => ?_)
    · have hf := o_pos c1 hf
      exact B_34 v_place _ _ _ hP hD hS (lv_sub hl [] rfl) hf
    · have hf := o_neg c1 hf
      refine lv_aload_n hx hb d_PM_figure_11 rfl (lv_at hl 0 rfl) ?_
      refine gf_PM_7 hC hP 0 rfl rfl d_PM_figure_12 ?_
      refine lv_aload_n hx hb d_PM_figure_15 rfl (lv_at hl 0 rfl) ?_
      refine gf_PM_77 hC hP 0 rfl rfl d_PM_figure_16 ?_
      obtain ⟨v2, h3, hf⟩ := o_bind hf
      refine r_iald hC hP 1 rfl h3 d_PM_figure_19 ?_
      refine lv_bipush (v := 48) hx hb d_PM_figure_20 (by decide) ?_
      refine lv_isub hx hb d_PM_figure_22 ?_
      refine lv_i2l (v := Int32.toInt64 (v2 - 48)) hx hb d_PM_figure_23 rfl ?_
      refine lv_iload_n hx hb d_PM_figure_24 rfl (lv_at hl 1 rfl) ?_
      refine lv_i2l (v := Int32.toInt64 i1) hx hb d_PM_figure_25 rfl ?_
      refine lv_iload_n hx hb d_PM_figure_26 rfl (lv_at hl 2 rfl) ?_
      refine lv_i2l (v := Int32.toInt64 i2) hx hb d_PM_figure_27 rfl ?_
      obtain ⟨r4, h5, hf⟩ := o_bind hf
      refine cSi0 (rest := []) (c_PM_in l D cI cZ (Int32.toInt64 (v2 - 48)) (Int32.toInt64 i1) (Int32.toInt64 i2) r4 h5) hC hA hP hD hS hl.1 cw_PM_66 ⟨Nat.le_of_ble_eq_true rfl, Nat.le_of_ble_eq_true rfl⟩ rfl rfl (Nat.le_of_ble_eq_true rfl) d_PM_figure_28 ⟨Nat.zero_le _, Nat.zero_le _⟩ (fun H locs hP hS => ?_)
      refine lv_if_ne (tgt := 37) hx hb d_PM_figure_31 (by decide) (fun c6 => ?_) (fun c6 => ?_)
      · have hf := o_neg c6 hf
        refine lv_aload_n hx hb d_PM_figure_37 rfl (lv_at hl 0 rfl) ?_
        refine lv_dup hx hb d_PM_figure_38 rfl ?_
        refine gf_PM_77 hC hP 0 rfl rfl d_PM_figure_39 ?_
        refine lv_iconst (v := 1) hx hb d_PM_figure_42 (by decide) ?_
        refine lv_iadd hx hb d_PM_figure_43 ?_
        refine pf_PM_77 hC hP hD hS 0 rfl (Nat.le_of_ble_eq_true rfl) d_PM_figure_44 (fun H locs hP hD hS => ?_)
        have hP : va_P D classes (cs_PM_figure cI cZ a_p0 a_text z_layer z_cabman z_readLayer z_readCabman z_page z_trial z_book z_kept z_isKept z_seenCabman z_seenFinger z_seenOff z_seenCame z_value z_shows v_thrown v_textSize (v_place + 1) v_cabmen v_readCabmen v_acts v_seen v_seed v_bestCleaning v_bestLayers v_bestMany v_underMany v_underLeast v_restMany v_restFirst v_text) H := hP
        have hD : va_D A (cs_PM_figure cI cZ a_p0 a_text z_layer z_cabman z_readLayer z_readCabman z_page z_trial z_book z_kept z_isKept z_seenCabman z_seenFinger z_seenOff z_seenCame z_value z_shows v_thrown v_textSize (v_place + 1) v_cabmen v_readCabmen v_acts v_seen v_seed v_bestCleaning v_bestLayers v_bestMany v_underMany v_underLeast v_restMany v_restFirst v_text) := hD
        refine lv_aload_n hx hb d_PM_figure_47 rfl (lv_at hl 0 rfl) ?_
        refine gf_PM_7 hC hP 0 rfl rfl d_PM_figure_48 ?_
        refine lv_aload_n hx hb d_PM_figure_51 rfl (lv_at hl 0 rfl) ?_
        refine gf_PM_77 hC hP 0 rfl rfl d_PM_figure_52 ?_
        refine lv_iconst (v := 1) hx hb d_PM_figure_55 (by decide) ?_
        refine lv_isub hx hb d_PM_figure_56 ?_
        obtain ⟨v7, h8, hf⟩ := o_bind hf
        refine r_iald hC hP 1 rfl h8 d_PM_figure_57 ?_
        refine lv_bipush (v := 48) hx hb d_PM_figure_58 (by decide) ?_
        refine lv_isub hx hb d_PM_figure_60 ?_
        have hr := Option.some.inj hf
        exact RET _ _ _ _ _ _ rfl (congrArg (fun r : Int32 × Int32 => r.1) hr) (congrArg (fun r : Int32 × Int32 => (cs_PM_figure cI cZ a_p0 a_text z_layer z_cabman z_readLayer z_readCabman z_page z_trial z_book z_kept z_isKept z_seenCabman z_seenFinger z_seenOff z_seenCame z_value z_shows v_thrown v_textSize r.2 v_cabmen v_readCabmen v_acts v_seen v_seed v_bestCleaning v_bestLayers v_bestMany v_underMany v_underLeast v_restMany v_restFirst v_text)) hr) hP hD hS d_PM_figure_61
      · have hf := o_pos c6 hf
        exact B_34 v_place _ _ _ hP hD hS (lv_sub hl [] rfl) hf
  exact E _ _ hP hS
set_option maxHeartbeats 4000000 in
set_option maxRecDepth 100000 in
theorem c_PM_readLayers (l : Launch) (D : va_G) (cI cZ : ClassId) (a_p0 a_text a_readLayer z_layer z_cabman z_readCabman z_page z_trial z_book z_kept z_isKept z_seenCabman z_seenFinger z_seenOff z_seenCame z_value z_shows : Nat) (v_thrown : Int32) (v_textSize : Int32) (v_place : Int32) (v_cabmen : Int32) (v_readCabmen : Int32) (v_acts : Int32) (v_seen : Int32) (v_seed : Int64) (v_bestCleaning : Int32) (v_bestLayers : Int32) (v_bestMany : Int32) (v_underMany : Int32) (v_underLeast : Int32) (v_restMany : Int32) (v_restFirst : Int32) (v_text : Nat → Int32) (v_readLayer : Nat → Int32) (res : Int32 × Int32 × (Nat → Int32)) (hf : f_PM_readLayers v_textSize v_text v_place v_readLayer = some res) : CtI l y_PM_readLayers b_PM_readLayers 3 (some .boolean) 2 D cI cZ [.ref a_p0] (cs_PM_readLayers cI cZ a_p0 a_text a_readLayer z_layer z_cabman z_readCabman z_page z_trial z_book z_kept z_isKept z_seenCabman z_seenFinger z_seenOff z_seenCame z_value z_shows v_thrown v_textSize v_place v_cabmen v_readCabmen v_acts v_seen v_seed v_bestCleaning v_bestLayers v_bestMany v_underMany v_underLeast v_restMany v_restFirst v_text v_readLayer) res.1 (cs_PM_readLayers cI cZ a_p0 a_text a_readLayer z_layer z_cabman z_readCabman z_page z_trial z_book z_kept z_isKept z_seenCabman z_seenFinger z_seenOff z_seenCame z_value z_shows v_thrown v_textSize res.2.1 v_cabmen v_readCabmen v_acts v_seen v_seed v_bestCleaning v_bestLayers v_bestMany v_underMany v_underLeast v_restMany v_restFirst v_text res.2.2) := by
  refine CtI_mk (by decide) (Nat.le_of_ble_eq_true rfl) ?_
  intro p e s m args below meth c A Q hC hA hP hD RET ls hl
  have hC : Cx p s m args meth c b_PM_readLayers 3 R_PM D cI cZ := hC
  have hl : lv_has ls 3 [(0, .ref a_p0)] := hl
  obtain ⟨hx, hb, hml, hown, hts, hlk, hKK⟩ := id hC
  have hS : va_S A s.heap s.heap [] := va_S.rf
  have B_2 : ∀  (n : Nat) (x1 : Int32) (v_place : Int32) (v_readLayer : Nat → Int32) (H : Heap) (locs : List Loc) (ls : Array Slot), va_P D classes (cs_PM_readLayers cI cZ a_p0 a_text a_readLayer z_layer z_cabman z_readCabman z_page z_trial z_book z_kept z_isKept z_seenCabman z_seenFinger z_seenOff z_seenCame z_value z_shows v_thrown v_textSize v_place v_cabmen v_readCabmen v_acts v_seen v_seed v_bestCleaning v_bestLayers v_bestMany v_underMany v_underLeast v_restMany v_restFirst v_text v_readLayer) H → va_D A (cs_PM_readLayers cI cZ a_p0 a_text a_readLayer z_layer z_cabman z_readCabman z_page z_trial z_book z_kept z_isKept z_seenCabman z_seenFinger z_seenOff z_seenCame z_value z_shows v_thrown v_textSize v_place v_cabmen v_readCabmen v_acts v_seen v_seed v_bestCleaning v_bestLayers v_bestMany v_underMany v_underLeast v_restMany v_restFirst v_text v_readLayer) → va_S A s.heap H locs → lv_has ls 3 [(0, .ref a_p0), (1, .int x1)] → f_PM_readLayers_2  v_textSize v_text n x1 v_place v_readLayer = some res → W p l e (rm_ 2 (40 * 2)) s m args below meth c H locs 0 0 Q (F0 m 2 ls []) := by
    intro  n
    induction n with
    | zero => intro x1 v_place v_readLayer H locs ls hP hD hS hl hf; exact nomatch hf
    | succ n ih =>
      intro x1 v_place v_readLayer H locs ls hP hD hS hl hf
      have hf : f_PM_readLayers_2_b  (f_PM_readLayers_2  v_textSize v_text n) v_textSize v_text x1 v_place v_readLayer = some res := hf
      generalize f_PM_readLayers_2  v_textSize v_text n = back_2 at ih hf
      have K_2 := ih
      unfold f_PM_readLayers_2_b at hf
      refine lv_iload_n hx hb d_PM_readLayers_2 rfl (lv_at hl 1 rfl) ?_
      refine lv_bipush (v := 12) hx hb d_PM_readLayers_3 (by decide) ?_
      refine lv_icmp_ge (tgt := 36) hx hb d_PM_readLayers_5 (by decide) (fun c1 => ?_) (fun c1 => ?_)
      · have hf := o_pos c1 hf
        refine lv_iconst (v := 1) hx hb d_PM_readLayers_36 (by decide) ?_
        have hr := Option.some.inj hf
        exact RET _ _ _ _ _ _ rfl (congrArg (fun r : Int32 × Int32 × (Nat → Int32) => r.1) hr) (congrArg (fun r : Int32 × Int32 × (Nat → Int32) => (cs_PM_readLayers cI cZ a_p0 a_text a_readLayer z_layer z_cabman z_readCabman z_page z_trial z_book z_kept z_isKept z_seenCabman z_seenFinger z_seenOff z_seenCame z_value z_shows v_thrown v_textSize r.2.1 v_cabmen v_readCabmen v_acts v_seen v_seed v_bestCleaning v_bestLayers v_bestMany v_underMany v_underLeast v_restMany v_restFirst v_text r.2.2)) hr) hP hD hS d_PM_readLayers_37
      · have hf := o_neg c1 hf
        refine lv_aload_n hx hb d_PM_readLayers_8 rfl (lv_at hl 0 rfl) ?_
        refine lv_iconst (v := 0) hx hb d_PM_readLayers_9 (by decide) ?_
        refine lv_iconst (v := 2) hx hb d_PM_readLayers_10 (by decide) ?_
        obtain ⟨r2, h3, hf⟩ := o_bind hf
        refine cVi (rest := []) (wr := [(a_readLayer, .inl (cI, 12, .inl v_readLayer))]) (wn := (cs_PM_readLayers cI cZ a_p0 a_text a_readLayer z_layer z_cabman z_readCabman z_page z_trial z_book z_kept z_isKept z_seenCabman z_seenFinger z_seenOff z_seenCame z_value z_shows v_thrown v_textSize r2.2 v_cabmen v_readCabmen v_acts v_seen v_seed v_bestCleaning v_bestLayers v_bestMany v_underMany v_underLeast v_restMany v_restFirst v_text v_readLayer)) (c_PM_figure l D cI cZ a_p0 a_text z_layer z_cabman a_readLayer z_readCabman z_page z_trial z_book z_kept z_isKept z_seenCabman z_seenFinger z_seenOff z_seenCame z_value z_shows 0 2 v_thrown v_textSize v_place v_cabmen v_readCabmen v_acts v_seen v_seed v_bestCleaning v_bestLayers v_bestMany v_underMany v_underLeast v_restMany v_restFirst v_text r2 h3) hC hA hP hD hS hl.1 cw_PM_80 0 rfl rfl rfl ⟨Nat.le_of_ble_eq_true rfl, Nat.le_of_ble_eq_true rfl⟩ rfl rfl (Nat.le_of_ble_eq_true rfl) d_PM_readLayers_11 ⟨Nat.zero_le _, Nat.zero_le _⟩ [0, 1] [2] [1, 2, 0] (by decide) (Cut_mk rfl rfl (by decide) (by decide) (by decide) rfl) (fun H locs hP hD hS => ?_)
        refine lv_istore_n (lv' := [(2, .int r2.1), (0, .ref a_p0), (1, .int x1)]) hx hb d_PM_readLayers_14 rfl hl (by decide) rfl (fun ls hl => ?_)
        refine lv_iload_n hx hb d_PM_readLayers_15 rfl (lv_at hl 0 rfl) ?_
        refine lv_bipush (v := (-9)) hx hb d_PM_readLayers_16 (by decide) ?_
        refine lv_icmp_ne (tgt := 23) hx hb d_PM_readLayers_18 (by decide) (fun c4 => ?_) (fun c4 => ?_)
        · have hf := o_neg c4 hf
          refine lv_aload_n hx hb d_PM_readLayers_23 rfl (lv_at hl 1 rfl) ?_
          refine gf_PM_19 hC hP 0 rfl rfl d_PM_readLayers_24 ?_
          refine lv_iload_n hx hb d_PM_readLayers_27 rfl (lv_at hl 2 rfl) ?_
          refine lv_iload_n hx hb d_PM_readLayers_28 rfl (lv_at hl 0 rfl) ?_
          obtain ⟨g5, h6, hf⟩ := o_bind hf
          refine r_iast hC hP hD hS 2 rfl h6 d_PM_readLayers_29 (fun H locs hP hD hS => ?_)
          have hP : va_P D classes (cs_PM_readLayers cI cZ a_p0 a_text a_readLayer z_layer z_cabman z_readCabman z_page z_trial z_book z_kept z_isKept z_seenCabman z_seenFinger z_seenOff z_seenCame z_value z_shows v_thrown v_textSize r2.2 v_cabmen v_readCabmen v_acts v_seen v_seed v_bestCleaning v_bestLayers v_bestMany v_underMany v_underLeast v_restMany v_restFirst v_text g5) H := hP
          have hD : va_D A (cs_PM_readLayers cI cZ a_p0 a_text a_readLayer z_layer z_cabman z_readCabman z_page z_trial z_book z_kept z_isKept z_seenCabman z_seenFinger z_seenOff z_seenCame z_value z_shows v_thrown v_textSize r2.2 v_cabmen v_readCabmen v_acts v_seen v_seed v_bestCleaning v_bestLayers v_bestMany v_underMany v_underLeast v_restMany v_restFirst v_text g5) := hD
          refine lv_iinc (v := x1 + 1) (lv' := [(1, .int (x1 + 1)), (2, .int r2.1), (0, .ref a_p0)]) hx hb d_PM_readLayers_30 hl (k := 2) rfl (rfl) (by decide) rfl (fun ls hl => ?_)
          refine lv_goto (tgt := 2) hx hb d_PM_readLayers_33 (by decide) ?_
          exact K_2 (x1 + 1) r2.2 g5 _ _ _ hP hD hS (lv_sub hl [2, 0] rfl) hf
        · have hf := o_pos c4 hf
          refine lv_iconst (v := 0) hx hb d_PM_readLayers_21 (by decide) ?_
          have hr := Option.some.inj hf
          exact RET _ _ _ _ _ _ rfl (congrArg (fun r : Int32 × Int32 × (Nat → Int32) => r.1) hr) (congrArg (fun r : Int32 × Int32 × (Nat → Int32) => (cs_PM_readLayers cI cZ a_p0 a_text a_readLayer z_layer z_cabman z_readCabman z_page z_trial z_book z_kept z_isKept z_seenCabman z_seenFinger z_seenOff z_seenCame z_value z_shows v_thrown v_textSize r.2.1 v_cabmen v_readCabmen v_acts v_seen v_seed v_bestCleaning v_bestLayers v_bestMany v_underMany v_underLeast v_restMany v_restFirst v_text r.2.2)) hr) hP hD hS d_PM_readLayers_22
  unfold f_PM_readLayers at hf
  have E : ∀ (H : Heap) (locs : List Loc), va_P D classes (cs_PM_readLayers cI cZ a_p0 a_text a_readLayer z_layer z_cabman z_readCabman z_page z_trial z_book z_kept z_isKept z_seenCabman z_seenFinger z_seenOff z_seenCame z_value z_shows v_thrown v_textSize v_place v_cabmen v_readCabmen v_acts v_seen v_seed v_bestCleaning v_bestLayers v_bestMany v_underMany v_underLeast v_restMany v_restFirst v_text v_readLayer) H → va_S A s.heap H locs → W p l e (rm_ 2 (40 * 2)) s m args below meth c H locs 0 0 Q (F0 m 0 ls []) := by
    intro H locs hP hS
    refine lv_iconst (v := 0) hx hb d_PM_readLayers_0 (by decide) ?_
    refine lv_istore_n (lv' := [(1, .int 0), (0, .ref a_p0)]) hx hb d_PM_readLayers_1 rfl hl (by decide) rfl (fun ls hl => ?_)
    exact B_2 300 0 v_place v_readLayer _ _ _ hP hD hS (lv_sub hl [1, 0] rfl) hf
  exact E _ _ hP hS
set_option maxHeartbeats 4000000 in
set_option maxRecDepth 100000 in
theorem c_PM_readOne (l : Launch) (D : va_G) (cI cZ : ClassId) (a_p0 a_text a_readCabman z_layer z_cabman z_readLayer z_page z_trial z_book z_kept z_isKept z_seenCabman z_seenFinger z_seenOff z_seenCame z_value z_shows : Nat) (v_thrown : Int32) (v_textSize : Int32) (v_place : Int32) (v_cabmen : Int32) (v_readCabmen : Int32) (v_acts : Int32) (v_seen : Int32) (v_seed : Int64) (v_bestCleaning : Int32) (v_bestLayers : Int32) (v_bestMany : Int32) (v_underMany : Int32) (v_underLeast : Int32) (v_restMany : Int32) (v_restFirst : Int32) (v_text : Nat → Int32) (v_readCabman : Nat → Int32) (res : Int32 × Int32 × Int32 × (Nat → Int32)) (hf : f_PM_readOne v_textSize v_text v_place v_readCabmen v_readCabman = some res) : CtI l y_PM_readOne b_PM_readOne 3 (some .boolean) 2 D cI cZ [.ref a_p0] (cs_PM_readOne cI cZ a_p0 a_text a_readCabman z_layer z_cabman z_readLayer z_page z_trial z_book z_kept z_isKept z_seenCabman z_seenFinger z_seenOff z_seenCame z_value z_shows v_thrown v_textSize v_place v_cabmen v_readCabmen v_acts v_seen v_seed v_bestCleaning v_bestLayers v_bestMany v_underMany v_underLeast v_restMany v_restFirst v_text v_readCabman) res.1 (cs_PM_readOne cI cZ a_p0 a_text a_readCabman z_layer z_cabman z_readLayer z_page z_trial z_book z_kept z_isKept z_seenCabman z_seenFinger z_seenOff z_seenCame z_value z_shows v_thrown v_textSize res.2.1 v_cabmen res.2.2.1 v_acts v_seen v_seed v_bestCleaning v_bestLayers v_bestMany v_underMany v_underLeast v_restMany v_restFirst v_text res.2.2.2) := by
  refine CtI_mk (by decide) (Nat.le_of_ble_eq_true rfl) ?_
  intro p e s m args below meth c A Q hC hA hP hD RET ls hl
  have hC : Cx p s m args meth c b_PM_readOne 3 R_PM D cI cZ := hC
  have hl : lv_has ls 3 [(0, .ref a_p0)] := hl
  obtain ⟨hx, hb, hml, hown, hts, hlk, hKK⟩ := id hC
  have hS : va_S A s.heap s.heap [] := va_S.rf
  have B_30 : ∀ (back_2 : Int32 → Int32 → Int32 → (Nat → Int32) → Option (Int32 × Int32 × Int32 × (Nat → Int32))) (K_2 : ∀ (x1 : Int32) (v_place : Int32) (v_readCabmen : Int32) (v_readCabman : Nat → Int32) (H : Heap) (locs : List Loc) (ls : Array Slot), va_P D classes (cs_PM_readOne cI cZ a_p0 a_text a_readCabman z_layer z_cabman z_readLayer z_page z_trial z_book z_kept z_isKept z_seenCabman z_seenFinger z_seenOff z_seenCame z_value z_shows v_thrown v_textSize v_place v_cabmen v_readCabmen v_acts v_seen v_seed v_bestCleaning v_bestLayers v_bestMany v_underMany v_underLeast v_restMany v_restFirst v_text v_readCabman) H → va_D A (cs_PM_readOne cI cZ a_p0 a_text a_readCabman z_layer z_cabman z_readLayer z_page z_trial z_book z_kept z_isKept z_seenCabman z_seenFinger z_seenOff z_seenCame z_value z_shows v_thrown v_textSize v_place v_cabmen v_readCabmen v_acts v_seen v_seed v_bestCleaning v_bestLayers v_bestMany v_underMany v_underLeast v_restMany v_restFirst v_text v_readCabman) → va_S A s.heap H locs → lv_has ls 3 [(0, .ref a_p0), (1, .int x1)] → back_2 x1 v_place v_readCabmen v_readCabman = some res → W p l e (rm_ 2 (40 * 2)) s m args below meth c H locs 0 0 Q (F0 m 2 ls [])) (x1 : Int32) (w1 : Int32) (w2 : Int32) (v_place : Int32) (v_readCabmen : Int32) (v_readCabman : Nat → Int32) (H : Heap) (locs : List Loc) (ls : Array Slot), va_P D classes (cs_PM_readOne cI cZ a_p0 a_text a_readCabman z_layer z_cabman z_readLayer z_page z_trial z_book z_kept z_isKept z_seenCabman z_seenFinger z_seenOff z_seenCame z_value z_shows v_thrown v_textSize v_place v_cabmen v_readCabmen v_acts v_seen v_seed v_bestCleaning v_bestLayers v_bestMany v_underMany v_underLeast v_restMany v_restFirst v_text v_readCabman) H → va_D A (cs_PM_readOne cI cZ a_p0 a_text a_readCabman z_layer z_cabman z_readLayer z_page z_trial z_book z_kept z_isKept z_seenCabman z_seenFinger z_seenOff z_seenCame z_value z_shows v_thrown v_textSize v_place v_cabmen v_readCabmen v_acts v_seen v_seed v_bestCleaning v_bestLayers v_bestMany v_underMany v_underLeast v_restMany v_restFirst v_text v_readCabman) → va_S A s.heap H locs → lv_has ls 3 [(0, .ref a_p0), (1, .int x1)] → f_PM_readOne_30 back_2 v_textSize v_text x1 w1 w2 v_place v_readCabmen v_readCabman = some res → W p l e (rm_ 2 (40 * 2)) s m args below meth c H locs 0 0 Q (F0 m 30 ls [.int w2, .int w1, .ref a_p0]) := by
    intro back_2 K_2 x1 w1 w2 v_place v_readCabmen v_readCabman H locs ls hP hD hS hl hf
    unfold f_PM_readOne_30 at hf
    obtain ⟨r1, h2, hf⟩ := o_bind hf
    refine cVi (rest := []) (wr := [(a_readCabman, .inl (cI, 30, .inl v_readCabman))]) (wn := (cs_PM_readOne cI cZ a_p0 a_text a_readCabman z_layer z_cabman z_readLayer z_page z_trial z_book z_kept z_isKept z_seenCabman z_seenFinger z_seenOff z_seenCame z_value z_shows v_thrown v_textSize r1.2 v_cabmen v_readCabmen v_acts v_seen v_seed v_bestCleaning v_bestLayers v_bestMany v_underMany v_underLeast v_restMany v_restFirst v_text v_readCabman)) (c_PM_figure l D cI cZ a_p0 a_text z_layer z_cabman z_readLayer a_readCabman z_page z_trial z_book z_kept z_isKept z_seenCabman z_seenFinger z_seenOff z_seenCame z_value z_shows w1 w2 v_thrown v_textSize v_place v_cabmen v_readCabmen v_acts v_seen v_seed v_bestCleaning v_bestLayers v_bestMany v_underMany v_underLeast v_restMany v_restFirst v_text r1 h2) hC hA hP hD hS hl.1 cw_PM_80 0 rfl rfl rfl ⟨Nat.le_of_ble_eq_true rfl, Nat.le_of_ble_eq_true rfl⟩ rfl rfl (Nat.le_of_ble_eq_true rfl) d_PM_readOne_30 ⟨Nat.zero_le _, Nat.zero_le _⟩ [0, 1] [2] [1, 2, 0] (by decide) (Cut_mk rfl rfl (by decide) (by decide) (by decide) rfl) (fun H locs hP hD hS => ?_)
    refine lv_istore_n (lv' := [(2, .int r1.1), (0, .ref a_p0), (1, .int x1)]) hx hb d_PM_readOne_33 rfl hl (by decide) rfl (fun ls hl => ?_)
    refine lv_iload_n hx hb d_PM_readOne_34 rfl (lv_at hl 0 rfl) ?_
    refine lv_bipush (v := (-9)) hx hb d_PM_readOne_35 (by decide) ?_
    refine lv_icmp_ne (tgt := 42) hx hb d_PM_readOne_37 (by decide) (fun c3 => ?_) (fun c3 => ?_)
    · have hf := o_neg c3 hf
      refine lv_aload_n hx hb d_PM_readOne_42 rfl (lv_at hl 1 rfl) ?_
      refine gf_PM_22 hC hP 0 rfl rfl d_PM_readOne_43 ?_
      refine lv_bipush (v := 6) hx hb d_PM_readOne_46 (by decide) ?_
      refine lv_aload_n hx hb d_PM_readOne_48 rfl (lv_at hl 1 rfl) ?_
      refine gf_PM_84 hC hP 0 rfl rfl d_PM_readOne_49 ?_
      refine lv_imul hx hb d_PM_readOne_52 ?_
      refine lv_iload_n hx hb d_PM_readOne_53 rfl (lv_at hl 2 rfl) ?_
      refine lv_iadd hx hb d_PM_readOne_54 ?_
      refine lv_iload_n hx hb d_PM_readOne_55 rfl (lv_at hl 0 rfl) ?_
      obtain ⟨g4, h5, hf⟩ := o_bind hf
      refine r_iast hC hP hD hS 2 rfl h5 d_PM_readOne_56 (fun H locs hP hD hS => ?_)
      have hP : va_P D classes (cs_PM_readOne cI cZ a_p0 a_text a_readCabman z_layer z_cabman z_readLayer z_page z_trial z_book z_kept z_isKept z_seenCabman z_seenFinger z_seenOff z_seenCame z_value z_shows v_thrown v_textSize r1.2 v_cabmen v_readCabmen v_acts v_seen v_seed v_bestCleaning v_bestLayers v_bestMany v_underMany v_underLeast v_restMany v_restFirst v_text g4) H := hP
      have hD : va_D A (cs_PM_readOne cI cZ a_p0 a_text a_readCabman z_layer z_cabman z_readLayer z_page z_trial z_book z_kept z_isKept z_seenCabman z_seenFinger z_seenOff z_seenCame z_value z_shows v_thrown v_textSize r1.2 v_cabmen v_readCabmen v_acts v_seen v_seed v_bestCleaning v_bestLayers v_bestMany v_underMany v_underLeast v_restMany v_restFirst v_text g4) := hD
      refine lv_iinc (v := x1 + 1) (lv' := [(1, .int (x1 + 1)), (2, .int r1.1), (0, .ref a_p0)]) hx hb d_PM_readOne_57 hl (k := 2) rfl (rfl) (by decide) rfl (fun ls hl => ?_)
      refine lv_goto (tgt := 2) hx hb d_PM_readOne_60 (by decide) ?_
      exact K_2 (x1 + 1) r1.2 v_readCabmen g4 _ _ _ hP hD hS (lv_sub hl [2, 0] rfl) hf
    · have hf := o_pos c3 hf
      refine lv_iconst (v := 0) hx hb d_PM_readOne_40 (by decide) ?_
      have hr := Option.some.inj hf
      exact RET _ _ _ _ _ _ rfl (congrArg (fun r : Int32 × Int32 × Int32 × (Nat → Int32) => r.1) hr) (congrArg (fun r : Int32 × Int32 × Int32 × (Nat → Int32) => (cs_PM_readOne cI cZ a_p0 a_text a_readCabman z_layer z_cabman z_readLayer z_page z_trial z_book z_kept z_isKept z_seenCabman z_seenFinger z_seenOff z_seenCame z_value z_shows v_thrown v_textSize r.2.1 v_cabmen r.2.2.1 v_acts v_seen v_seed v_bestCleaning v_bestLayers v_bestMany v_underMany v_underLeast v_restMany v_restFirst v_text r.2.2.2)) hr) hP hD hS d_PM_readOne_41
  have B_19 : ∀ (back_2 : Int32 → Int32 → Int32 → (Nat → Int32) → Option (Int32 × Int32 × Int32 × (Nat → Int32))) (K_2 : ∀ (x1 : Int32) (v_place : Int32) (v_readCabmen : Int32) (v_readCabman : Nat → Int32) (H : Heap) (locs : List Loc) (ls : Array Slot), va_P D classes (cs_PM_readOne cI cZ a_p0 a_text a_readCabman z_layer z_cabman z_readLayer z_page z_trial z_book z_kept z_isKept z_seenCabman z_seenFinger z_seenOff z_seenCame z_value z_shows v_thrown v_textSize v_place v_cabmen v_readCabmen v_acts v_seen v_seed v_bestCleaning v_bestLayers v_bestMany v_underMany v_underLeast v_restMany v_restFirst v_text v_readCabman) H → va_D A (cs_PM_readOne cI cZ a_p0 a_text a_readCabman z_layer z_cabman z_readLayer z_page z_trial z_book z_kept z_isKept z_seenCabman z_seenFinger z_seenOff z_seenCame z_value z_shows v_thrown v_textSize v_place v_cabmen v_readCabmen v_acts v_seen v_seed v_bestCleaning v_bestLayers v_bestMany v_underMany v_underLeast v_restMany v_restFirst v_text v_readCabman) → va_S A s.heap H locs → lv_has ls 3 [(0, .ref a_p0), (1, .int x1)] → back_2 x1 v_place v_readCabmen v_readCabman = some res → W p l e (rm_ 2 (40 * 2)) s m args below meth c H locs 0 0 Q (F0 m 2 ls [])) (x1 : Int32) (w1 : Int32) (v_place : Int32) (v_readCabmen : Int32) (v_readCabman : Nat → Int32) (H : Heap) (locs : List Loc) (ls : Array Slot), va_P D classes (cs_PM_readOne cI cZ a_p0 a_text a_readCabman z_layer z_cabman z_readLayer z_page z_trial z_book z_kept z_isKept z_seenCabman z_seenFinger z_seenOff z_seenCame z_value z_shows v_thrown v_textSize v_place v_cabmen v_readCabmen v_acts v_seen v_seed v_bestCleaning v_bestLayers v_bestMany v_underMany v_underLeast v_restMany v_restFirst v_text v_readCabman) H → va_D A (cs_PM_readOne cI cZ a_p0 a_text a_readCabman z_layer z_cabman z_readLayer z_page z_trial z_book z_kept z_isKept z_seenCabman z_seenFinger z_seenOff z_seenCame z_value z_shows v_thrown v_textSize v_place v_cabmen v_readCabmen v_acts v_seen v_seed v_bestCleaning v_bestLayers v_bestMany v_underMany v_underLeast v_restMany v_restFirst v_text v_readCabman) → va_S A s.heap H locs → lv_has ls 3 [(0, .ref a_p0), (1, .int x1)] → f_PM_readOne_19 back_2 v_textSize v_text x1 w1 v_place v_readCabmen v_readCabman = some res → W p l e (rm_ 2 (40 * 2)) s m args below meth c H locs 0 0 Q (F0 m 19 ls [.int w1, .ref a_p0]) := by
    intro back_2 K_2 x1 w1 v_place v_readCabmen v_readCabman H locs ls hP hD hS hl hf
    unfold f_PM_readOne_19 at hf
    refine lv_iload_n hx hb d_PM_readOne_19 rfl (lv_at hl 1 rfl) ?_
    refine lv_iconst (v := 1) hx hb d_PM_readOne_20 (by decide) ?_
    refine lv_icmp_ne (tgt := 29) hx hb d_PM_readOne_21 (by decide) (fun c1 => ?_) (fun c1 => ?_)
    · have hf := o_neg c1 hf
      refine lv_iconst (v := 3) hx hb d_PM_readOne_29 (by decide) ?_
      exact B_30 back_2 K_2 x1 w1 3 v_place v_readCabmen v_readCabman _ _ _ hP hD hS (lv_sub hl [0, 1] rfl) hf
    · have hf := o_pos c1 hf
      refine lv_bipush (v := 9) hx hb d_PM_readOne_24 (by decide) ?_
      refine lv_goto (tgt := 30) hx hb d_PM_readOne_26 (by decide) ?_
      exact B_30 back_2 K_2 x1 w1 9 v_place v_readCabmen v_readCabman _ _ _ hP hD hS (lv_sub hl [0, 1] rfl) hf
  have B_2 : ∀  (n : Nat) (x1 : Int32) (v_place : Int32) (v_readCabmen : Int32) (v_readCabman : Nat → Int32) (H : Heap) (locs : List Loc) (ls : Array Slot), va_P D classes (cs_PM_readOne cI cZ a_p0 a_text a_readCabman z_layer z_cabman z_readLayer z_page z_trial z_book z_kept z_isKept z_seenCabman z_seenFinger z_seenOff z_seenCame z_value z_shows v_thrown v_textSize v_place v_cabmen v_readCabmen v_acts v_seen v_seed v_bestCleaning v_bestLayers v_bestMany v_underMany v_underLeast v_restMany v_restFirst v_text v_readCabman) H → va_D A (cs_PM_readOne cI cZ a_p0 a_text a_readCabman z_layer z_cabman z_readLayer z_page z_trial z_book z_kept z_isKept z_seenCabman z_seenFinger z_seenOff z_seenCame z_value z_shows v_thrown v_textSize v_place v_cabmen v_readCabmen v_acts v_seen v_seed v_bestCleaning v_bestLayers v_bestMany v_underMany v_underLeast v_restMany v_restFirst v_text v_readCabman) → va_S A s.heap H locs → lv_has ls 3 [(0, .ref a_p0), (1, .int x1)] → f_PM_readOne_2  v_textSize v_text n x1 v_place v_readCabmen v_readCabman = some res → W p l e (rm_ 2 (40 * 2)) s m args below meth c H locs 0 0 Q (F0 m 2 ls []) := by
    intro  n
    induction n with
    | zero => intro x1 v_place v_readCabmen v_readCabman H locs ls hP hD hS hl hf; exact nomatch hf
    | succ n ih =>
      intro x1 v_place v_readCabmen v_readCabman H locs ls hP hD hS hl hf
      have hf : f_PM_readOne_2_b  (f_PM_readOne_2  v_textSize v_text n) v_textSize v_text x1 v_place v_readCabmen v_readCabman = some res := hf
      generalize f_PM_readOne_2  v_textSize v_text n = back_2 at ih hf
      have K_2 := ih
      unfold f_PM_readOne_2_b at hf
      refine lv_iload_n hx hb d_PM_readOne_2 rfl (lv_at hl 1 rfl) ?_
      refine lv_bipush (v := 6) hx hb d_PM_readOne_3 (by decide) ?_
      refine lv_icmp_ge (tgt := 63) hx hb d_PM_readOne_5 (by decide) (fun c1 => ?_) (fun c1 => ?_)
      · have hf := o_pos c1 hf
        refine lv_aload_n hx hb d_PM_readOne_63 rfl (lv_at hl 0 rfl) ?_
        refine lv_dup hx hb d_PM_readOne_64 rfl ?_
        refine gf_PM_84 hC hP 0 rfl rfl d_PM_readOne_65 ?_
        refine lv_iconst (v := 1) hx hb d_PM_readOne_68 (by decide) ?_
        refine lv_iadd hx hb d_PM_readOne_69 ?_
        refine pf_PM_84 hC hP hD hS 0 rfl (Nat.le_of_ble_eq_true rfl) d_PM_readOne_70 (fun H locs hP hD hS => ?_)
        have hP : va_P D classes (cs_PM_readOne cI cZ a_p0 a_text a_readCabman z_layer z_cabman z_readLayer z_page z_trial z_book z_kept z_isKept z_seenCabman z_seenFinger z_seenOff z_seenCame z_value z_shows v_thrown v_textSize v_place v_cabmen (v_readCabmen + 1) v_acts v_seen v_seed v_bestCleaning v_bestLayers v_bestMany v_underMany v_underLeast v_restMany v_restFirst v_text v_readCabman) H := hP
        have hD : va_D A (cs_PM_readOne cI cZ a_p0 a_text a_readCabman z_layer z_cabman z_readLayer z_page z_trial z_book z_kept z_isKept z_seenCabman z_seenFinger z_seenOff z_seenCame z_value z_shows v_thrown v_textSize v_place v_cabmen (v_readCabmen + 1) v_acts v_seen v_seed v_bestCleaning v_bestLayers v_bestMany v_underMany v_underLeast v_restMany v_restFirst v_text v_readCabman) := hD
        refine lv_iconst (v := 1) hx hb d_PM_readOne_73 (by decide) ?_
        have hr := Option.some.inj hf
        exact RET _ _ _ _ _ _ rfl (congrArg (fun r : Int32 × Int32 × Int32 × (Nat → Int32) => r.1) hr) (congrArg (fun r : Int32 × Int32 × Int32 × (Nat → Int32) => (cs_PM_readOne cI cZ a_p0 a_text a_readCabman z_layer z_cabman z_readLayer z_page z_trial z_book z_kept z_isKept z_seenCabman z_seenFinger z_seenOff z_seenCame z_value z_shows v_thrown v_textSize r.2.1 v_cabmen r.2.2.1 v_acts v_seen v_seed v_bestCleaning v_bestLayers v_bestMany v_underMany v_underLeast v_restMany v_restFirst v_text r.2.2.2)) hr) hP hD hS d_PM_readOne_74
      · have hf := o_neg c1 hf
        refine lv_aload_n hx hb d_PM_readOne_8 rfl (lv_at hl 0 rfl) ?_
        refine lv_iload_n hx hb d_PM_readOne_9 rfl (lv_at hl 1 rfl) ?_
        refine lv_iconst (v := 1) hx hb d_PM_readOne_10 (by decide) ?_
        refine lv_icmp_ne (tgt := 18) hx hb d_PM_readOne_11 (by decide) (fun c2 => ?_) (fun c2 => ?_)
        · have hf := o_neg c2 hf
          refine lv_iconst (v := 0) hx hb d_PM_readOne_18 (by decide) ?_
          exact B_19 back_2 K_2 x1 0 v_place v_readCabmen v_readCabman _ _ _ hP hD hS (lv_sub hl [0, 1] rfl) hf
        · have hf := o_pos c2 hf
          refine lv_iconst (v := 1) hx hb d_PM_readOne_14 (by decide) ?_
          refine lv_goto (tgt := 19) hx hb d_PM_readOne_15 (by decide) ?_
          exact B_19 back_2 K_2 x1 1 v_place v_readCabmen v_readCabman _ _ _ hP hD hS (lv_sub hl [0, 1] rfl) hf
  unfold f_PM_readOne at hf
  have E : ∀ (H : Heap) (locs : List Loc), va_P D classes (cs_PM_readOne cI cZ a_p0 a_text a_readCabman z_layer z_cabman z_readLayer z_page z_trial z_book z_kept z_isKept z_seenCabman z_seenFinger z_seenOff z_seenCame z_value z_shows v_thrown v_textSize v_place v_cabmen v_readCabmen v_acts v_seen v_seed v_bestCleaning v_bestLayers v_bestMany v_underMany v_underLeast v_restMany v_restFirst v_text v_readCabman) H → va_S A s.heap H locs → W p l e (rm_ 2 (40 * 2)) s m args below meth c H locs 0 0 Q (F0 m 0 ls []) := by
    intro H locs hP hS
    refine lv_iconst (v := 0) hx hb d_PM_readOne_0 (by decide) ?_
    refine lv_istore_n (lv' := [(1, .int 0), (0, .ref a_p0)]) hx hb d_PM_readOne_1 rfl hl (by decide) rfl (fun ls hl => ?_)
    exact B_2 300 0 v_place v_readCabmen v_readCabman _ _ _ hP hD hS (lv_sub hl [1, 0] rfl) hf
  exact E _ _ hP hS
set_option maxHeartbeats 4000000 in
set_option maxRecDepth 100000 in
theorem c_PM_readHall (l : Launch) (D : va_G) (cI cZ : ClassId) (a_p0 a_text a_readLayer a_readCabman z_layer z_cabman z_page z_trial z_book z_kept z_isKept z_seenCabman z_seenFinger z_seenOff z_seenCame z_value z_shows : Nat) (v_thrown : Int32) (v_textSize : Int32) (v_place : Int32) (v_cabmen : Int32) (v_readCabmen : Int32) (v_acts : Int32) (v_seen : Int32) (v_seed : Int64) (v_bestCleaning : Int32) (v_bestLayers : Int32) (v_bestMany : Int32) (v_underMany : Int32) (v_underLeast : Int32) (v_restMany : Int32) (v_restFirst : Int32) (v_text : Nat → Int32) (v_readLayer : Nat → Int32) (v_readCabman : Nat → Int32) (res : Int32 × Int32 × Int32 × (Nat → Int32) × (Nat → Int32)) (hf : f_PM_readHall v_textSize v_text v_place v_readCabmen v_readLayer v_readCabman = some res) : CtI l y_PM_readHall b_PM_readHall 1 (some .int) 3 D cI cZ [.ref a_p0] (cs_PM_readHall cI cZ a_p0 a_text a_readLayer a_readCabman z_layer z_cabman z_page z_trial z_book z_kept z_isKept z_seenCabman z_seenFinger z_seenOff z_seenCame z_value z_shows v_thrown v_textSize v_place v_cabmen v_readCabmen v_acts v_seen v_seed v_bestCleaning v_bestLayers v_bestMany v_underMany v_underLeast v_restMany v_restFirst v_text v_readLayer v_readCabman) res.1 (cs_PM_readHall cI cZ a_p0 a_text a_readLayer a_readCabman z_layer z_cabman z_page z_trial z_book z_kept z_isKept z_seenCabman z_seenFinger z_seenOff z_seenCame z_value z_shows v_thrown v_textSize res.2.1 v_cabmen res.2.2.1 v_acts v_seen v_seed v_bestCleaning v_bestLayers v_bestMany v_underMany v_underLeast v_restMany v_restFirst v_text res.2.2.2.1 res.2.2.2.2) := by
  refine CtI_mk (by decide) (Nat.le_of_ble_eq_true rfl) ?_
  intro p e s m args below meth c A Q hC hA hP hD RET ls hl
  have hC : Cx p s m args meth c b_PM_readHall 1 R_PM D cI cZ := hC
  have hl : lv_has ls 1 [(0, .ref a_p0)] := hl
  obtain ⟨hx, hb, hml, hown, hts, hlk, hKK⟩ := id hC
  have hS : va_S A s.heap s.heap [] := va_S.rf
  have B_28 : ∀  (v_place : Int32) (v_readCabmen : Int32) (v_readLayer : Nat → Int32) (v_readCabman : Nat → Int32) (H : Heap) (locs : List Loc) (ls : Array Slot), va_P D classes (cs_PM_readHall cI cZ a_p0 a_text a_readLayer a_readCabman z_layer z_cabman z_page z_trial z_book z_kept z_isKept z_seenCabman z_seenFinger z_seenOff z_seenCame z_value z_shows v_thrown v_textSize v_place v_cabmen v_readCabmen v_acts v_seen v_seed v_bestCleaning v_bestLayers v_bestMany v_underMany v_underLeast v_restMany v_restFirst v_text v_readLayer v_readCabman) H → va_D A (cs_PM_readHall cI cZ a_p0 a_text a_readLayer a_readCabman z_layer z_cabman z_page z_trial z_book z_kept z_isKept z_seenCabman z_seenFinger z_seenOff z_seenCame z_value z_shows v_thrown v_textSize v_place v_cabmen v_readCabmen v_acts v_seen v_seed v_bestCleaning v_bestLayers v_bestMany v_underMany v_underLeast v_restMany v_restFirst v_text v_readLayer v_readCabman) → va_S A s.heap H locs → lv_has ls 1 [] → f_PM_readHall_28  v_textSize v_text v_place v_readCabmen v_readLayer v_readCabman = some res → W p l e (rm_ 3 (40 * 3)) s m args below meth c H locs 0 0 Q (F0 m 28 ls []) := by
    intro  v_place v_readCabmen v_readLayer v_readCabman H locs ls hP hD hS hl hf
    unfold f_PM_readHall_28 at hf
    refine lv_iconst (v := 0) hx hb d_PM_readHall_28 (by decide) ?_
    have hr := Option.some.inj hf
    exact RET _ _ _ _ _ _ rfl (congrArg (fun r : Int32 × Int32 × Int32 × (Nat → Int32) × (Nat → Int32) => r.1) hr) (congrArg (fun r : Int32 × Int32 × Int32 × (Nat → Int32) × (Nat → Int32) => (cs_PM_readHall cI cZ a_p0 a_text a_readLayer a_readCabman z_layer z_cabman z_page z_trial z_book z_kept z_isKept z_seenCabman z_seenFinger z_seenOff z_seenCame z_value z_shows v_thrown v_textSize r.2.1 v_cabmen r.2.2.1 v_acts v_seen v_seed v_bestCleaning v_bestLayers v_bestMany v_underMany v_underLeast v_restMany v_restFirst v_text r.2.2.2.1 r.2.2.2.2)) hr) hP hD hS d_PM_readHall_29
  have B_80 : ∀  (v_place : Int32) (v_readCabmen : Int32) (v_readLayer : Nat → Int32) (v_readCabman : Nat → Int32) (H : Heap) (locs : List Loc) (ls : Array Slot), va_P D classes (cs_PM_readHall cI cZ a_p0 a_text a_readLayer a_readCabman z_layer z_cabman z_page z_trial z_book z_kept z_isKept z_seenCabman z_seenFinger z_seenOff z_seenCame z_value z_shows v_thrown v_textSize v_place v_cabmen v_readCabmen v_acts v_seen v_seed v_bestCleaning v_bestLayers v_bestMany v_underMany v_underLeast v_restMany v_restFirst v_text v_readLayer v_readCabman) H → va_D A (cs_PM_readHall cI cZ a_p0 a_text a_readLayer a_readCabman z_layer z_cabman z_page z_trial z_book z_kept z_isKept z_seenCabman z_seenFinger z_seenOff z_seenCame z_value z_shows v_thrown v_textSize v_place v_cabmen v_readCabmen v_acts v_seen v_seed v_bestCleaning v_bestLayers v_bestMany v_underMany v_underLeast v_restMany v_restFirst v_text v_readLayer v_readCabman) → va_S A s.heap H locs → lv_has ls 1 [(0, .ref a_p0)] → f_PM_readHall_80  v_textSize v_text v_place v_readCabmen v_readLayer v_readCabman = some res → W p l e (rm_ 3 (40 * 3)) s m args below meth c H locs 0 0 Q (F0 m 80 ls []) := by
    intro  v_place v_readCabmen v_readLayer v_readCabman H locs ls hP hD hS hl hf
    unfold f_PM_readHall_80 at hf
    refine lv_aload_n hx hb d_PM_readHall_80 rfl (lv_at hl 0 rfl) ?_
    refine gf_PM_77 hC hP 0 rfl rfl d_PM_readHall_81 ?_
    have hr := Option.some.inj hf
    exact RET _ _ _ _ _ _ rfl (congrArg (fun r : Int32 × Int32 × Int32 × (Nat → Int32) × (Nat → Int32) => r.1) hr) (congrArg (fun r : Int32 × Int32 × Int32 × (Nat → Int32) × (Nat → Int32) => (cs_PM_readHall cI cZ a_p0 a_text a_readLayer a_readCabman z_layer z_cabman z_page z_trial z_book z_kept z_isKept z_seenCabman z_seenFinger z_seenOff z_seenCame z_value z_shows v_thrown v_textSize r.2.1 v_cabmen r.2.2.1 v_acts v_seen v_seed v_bestCleaning v_bestLayers v_bestMany v_underMany v_underLeast v_restMany v_restFirst v_text r.2.2.2.1 r.2.2.2.2)) hr) hP hD hS d_PM_readHall_84
  have B_47 : ∀  (n : Nat) (v_place : Int32) (v_readCabmen : Int32) (v_readLayer : Nat → Int32) (v_readCabman : Nat → Int32) (H : Heap) (locs : List Loc) (ls : Array Slot), va_P D classes (cs_PM_readHall cI cZ a_p0 a_text a_readLayer a_readCabman z_layer z_cabman z_page z_trial z_book z_kept z_isKept z_seenCabman z_seenFinger z_seenOff z_seenCame z_value z_shows v_thrown v_textSize v_place v_cabmen v_readCabmen v_acts v_seen v_seed v_bestCleaning v_bestLayers v_bestMany v_underMany v_underLeast v_restMany v_restFirst v_text v_readLayer v_readCabman) H → va_D A (cs_PM_readHall cI cZ a_p0 a_text a_readLayer a_readCabman z_layer z_cabman z_page z_trial z_book z_kept z_isKept z_seenCabman z_seenFinger z_seenOff z_seenCame z_value z_shows v_thrown v_textSize v_place v_cabmen v_readCabmen v_acts v_seen v_seed v_bestCleaning v_bestLayers v_bestMany v_underMany v_underLeast v_restMany v_restFirst v_text v_readLayer v_readCabman) → va_S A s.heap H locs → lv_has ls 1 [(0, .ref a_p0)] → f_PM_readHall_47  v_textSize v_text n v_place v_readCabmen v_readLayer v_readCabman = some res → W p l e (rm_ 3 (40 * 3)) s m args below meth c H locs 0 0 Q (F0 m 47 ls []) := by
    intro  n
    induction n with
    | zero => intro v_place v_readCabmen v_readLayer v_readCabman H locs ls hP hD hS hl hf; exact nomatch hf
    | succ n ih =>
      intro v_place v_readCabmen v_readLayer v_readCabman H locs ls hP hD hS hl hf
      have hf : f_PM_readHall_47_b  (f_PM_readHall_47  v_textSize v_text n) v_textSize v_text v_place v_readCabmen v_readLayer v_readCabman = some res := hf
      generalize f_PM_readHall_47  v_textSize v_text n = back_47 at ih hf
      have K_47 := ih
      unfold f_PM_readHall_47_b at hf
      refine lv_aload_n hx hb d_PM_readHall_47 rfl (lv_at hl 0 rfl) ?_
      refine gf_PM_77 hC hP 0 rfl rfl d_PM_readHall_48 ?_
      refine lv_aload_n hx hb d_PM_readHall_51 rfl (lv_at hl 0 rfl) ?_
      refine gf_PM_74 hC hP 0 rfl rfl d_PM_readHall_52 ?_
      refine lv_icmp_ge (tgt := 107) hx hb d_PM_readHall_55 (by decide) (fun c1 => ?_) (fun c1 => ?_)
      · have hf := o_pos c1 hf
        refine lv_bipush (v := (-9)) hx hb d_PM_readHall_107 (by decide) ?_
        have hr := Option.some.inj hf
        exact RET _ _ _ _ _ _ rfl (congrArg (fun r : Int32 × Int32 × Int32 × (Nat → Int32) × (Nat → Int32) => r.1) hr) (congrArg (fun r : Int32 × Int32 × Int32 × (Nat → Int32) × (Nat → Int32) => (cs_PM_readHall cI cZ a_p0 a_text a_readLayer a_readCabman z_layer z_cabman z_page z_trial z_book z_kept z_isKept z_seenCabman z_seenFinger z_seenOff z_seenCame z_value z_shows v_thrown v_textSize r.2.1 v_cabmen r.2.2.1 v_acts v_seen v_seed v_bestCleaning v_bestLayers v_bestMany v_underMany v_underLeast v_restMany v_restFirst v_text r.2.2.2.1 r.2.2.2.2)) hr) hP hD hS d_PM_readHall_109
      · have hf := o_neg c1 hf
        refine lv_aload_n hx hb d_PM_readHall_58 rfl (lv_at hl 0 rfl) ?_
        refine gf_PM_7 hC hP 0 rfl rfl d_PM_readHall_59 ?_
        refine lv_aload_n hx hb d_PM_readHall_62 rfl (lv_at hl 0 rfl) ?_
        refine gf_PM_77 hC hP 0 rfl rfl d_PM_readHall_63 ?_
        obtain ⟨v2, h3, hf⟩ := o_bind hf
        refine r_iald hC hP 1 rfl h3 d_PM_readHall_66 ?_
        refine lv_bipush (v := 67) hx hb d_PM_readHall_67 (by decide) ?_
        refine lv_icmp_ne (tgt := 80) hx hb d_PM_readHall_69 (by decide) (fun c4 => ?_) (fun c4 => ?_)
        · have hf := o_neg c4 hf
          exact B_80 v_place v_readCabmen v_readLayer v_readCabman _ _ _ hP hD hS (lv_sub hl [0] rfl) hf
        · have hf := o_pos c4 hf
          refine lv_aload_n hx hb d_PM_readHall_72 rfl (lv_at hl 0 rfl) ?_
          refine gf_PM_84 hC hP 0 rfl rfl d_PM_readHall_73 ?_
          refine lv_iconst (v := 5) hx hb d_PM_readHall_76 (by decide) ?_
          refine lv_icmp_ne (tgt := 85) hx hb d_PM_readHall_77 (by decide) (fun c5 => ?_) (fun c5 => ?_)
          · have hf := o_neg c5 hf
            refine lv_aload_n hx hb d_PM_readHall_85 rfl (lv_at hl 0 rfl) ?_
            refine lv_dup hx hb d_PM_readHall_86 rfl ?_
            refine gf_PM_77 hC hP 0 rfl rfl d_PM_readHall_87 ?_
            refine lv_iconst (v := 1) hx hb d_PM_readHall_90 (by decide) ?_
            refine lv_iadd hx hb d_PM_readHall_91 ?_
            refine pf_PM_77 hC hP hD hS 0 rfl (Nat.le_of_ble_eq_true rfl) d_PM_readHall_92 (fun H locs hP hD hS => ?_)
            have hP : va_P D classes (cs_PM_readHall cI cZ a_p0 a_text a_readLayer a_readCabman z_layer z_cabman z_page z_trial z_book z_kept z_isKept z_seenCabman z_seenFinger z_seenOff z_seenCame z_value z_shows v_thrown v_textSize (v_place + 1) v_cabmen v_readCabmen v_acts v_seen v_seed v_bestCleaning v_bestLayers v_bestMany v_underMany v_underLeast v_restMany v_restFirst v_text v_readLayer v_readCabman) H := hP
            have hD : va_D A (cs_PM_readHall cI cZ a_p0 a_text a_readLayer a_readCabman z_layer z_cabman z_page z_trial z_book z_kept z_isKept z_seenCabman z_seenFinger z_seenOff z_seenCame z_value z_shows v_thrown v_textSize (v_place + 1) v_cabmen v_readCabmen v_acts v_seen v_seed v_bestCleaning v_bestLayers v_bestMany v_underMany v_underLeast v_restMany v_restFirst v_text v_readLayer v_readCabman) := hD
            refine lv_aload_n hx hb d_PM_readHall_95 rfl (lv_at hl 0 rfl) ?_
            obtain ⟨r6, h7, hf⟩ := o_bind hf
            refine cVi (rest := []) (wr := [(a_readLayer, .inl (cI, 12, .inl v_readLayer))]) (wn := (cs_PM_readHall cI cZ a_p0 a_text a_readLayer a_readCabman z_layer z_cabman z_page z_trial z_book z_kept z_isKept z_seenCabman z_seenFinger z_seenOff z_seenCame z_value z_shows v_thrown v_textSize r6.2.1 v_cabmen r6.2.2.1 v_acts v_seen v_seed v_bestCleaning v_bestLayers v_bestMany v_underMany v_underLeast v_restMany v_restFirst v_text v_readLayer r6.2.2.2)) (c_PM_readOne l D cI cZ a_p0 a_text a_readCabman z_layer z_cabman a_readLayer z_page z_trial z_book z_kept z_isKept z_seenCabman z_seenFinger z_seenOff z_seenCame z_value z_shows v_thrown v_textSize (v_place + 1) v_cabmen v_readCabmen v_acts v_seen v_seed v_bestCleaning v_bestLayers v_bestMany v_underMany v_underLeast v_restMany v_restFirst v_text v_readCabman r6 h7) hC hA hP hD hS hl.1 cw_PM_91 0 rfl rfl rfl ⟨Nat.le_of_ble_eq_true rfl, Nat.le_of_ble_eq_true rfl⟩ rfl rfl (Nat.le_of_ble_eq_true rfl) d_PM_readHall_96 ⟨Nat.zero_le _, Nat.zero_le _⟩ [0, 1, 3] [2] [1, 2, 0, 3] (by decide) (Cut_mk rfl rfl (by decide) (by decide) (by decide) rfl) (fun H locs hP hD hS => ?_)
            refine lv_if_ne (tgt := 47) hx hb d_PM_readHall_99 (by decide) (fun c8 => ?_) (fun c8 => ?_)
            · have hf := o_neg c8 hf
              exact K_47 r6.2.1 r6.2.2.1 v_readLayer r6.2.2.2 _ _ _ hP hD hS (lv_sub hl [0] rfl) hf
            · have hf := o_pos c8 hf
              refine lv_aload_n hx hb d_PM_readHall_102 rfl (lv_at hl 0 rfl) ?_
              refine gf_PM_77 hC hP 0 rfl rfl d_PM_readHall_103 ?_
              have hr := Option.some.inj hf
              exact RET _ _ _ _ _ _ rfl (congrArg (fun r : Int32 × Int32 × Int32 × (Nat → Int32) × (Nat → Int32) => r.1) hr) (congrArg (fun r : Int32 × Int32 × Int32 × (Nat → Int32) × (Nat → Int32) => (cs_PM_readHall cI cZ a_p0 a_text a_readLayer a_readCabman z_layer z_cabman z_page z_trial z_book z_kept z_isKept z_seenCabman z_seenFinger z_seenOff z_seenCame z_value z_shows v_thrown v_textSize r.2.1 v_cabmen r.2.2.1 v_acts v_seen v_seed v_bestCleaning v_bestLayers v_bestMany v_underMany v_underLeast v_restMany v_restFirst v_text r.2.2.2.1 r.2.2.2.2)) hr) hP hD hS d_PM_readHall_106
          · have hf := o_pos c5 hf
            exact B_80 v_place v_readCabmen v_readLayer v_readCabman _ _ _ hP hD hS (lv_sub hl [0] rfl) hf
  unfold f_PM_readHall at hf
  have E : ∀ (H : Heap) (locs : List Loc), va_P D classes (cs_PM_readHall cI cZ a_p0 a_text a_readLayer a_readCabman z_layer z_cabman z_page z_trial z_book z_kept z_isKept z_seenCabman z_seenFinger z_seenOff z_seenCame z_value z_shows v_thrown v_textSize v_place v_cabmen v_readCabmen v_acts v_seen v_seed v_bestCleaning v_bestLayers v_bestMany v_underMany v_underLeast v_restMany v_restFirst v_text v_readLayer v_readCabman) H → va_S A s.heap H locs → W p l e (rm_ 3 (40 * 3)) s m args below meth c H locs 0 0 Q (F0 m 0 ls []) := by
    intro H locs hP hS
    refine lv_aload_n hx hb d_PM_readHall_0 rfl (lv_at hl 0 rfl) ?_
    refine lv_iconst (v := 0) hx hb d_PM_readHall_1 (by decide) ?_
    refine pf_PM_77 hC hP hD hS 0 rfl (Nat.le_of_ble_eq_true rfl) d_PM_readHall_2 (fun H locs hP hD hS => ?_)
    have hP : va_P D classes (cs_PM_readHall cI cZ a_p0 a_text a_readLayer a_readCabman z_layer z_cabman z_page z_trial z_book z_kept z_isKept z_seenCabman z_seenFinger z_seenOff z_seenCame z_value z_shows v_thrown v_textSize 0 v_cabmen v_readCabmen v_acts v_seen v_seed v_bestCleaning v_bestLayers v_bestMany v_underMany v_underLeast v_restMany v_restFirst v_text v_readLayer v_readCabman) H := hP
    have hD : va_D A (cs_PM_readHall cI cZ a_p0 a_text a_readLayer a_readCabman z_layer z_cabman z_page z_trial z_book z_kept z_isKept z_seenCabman z_seenFinger z_seenOff z_seenCame z_value z_shows v_thrown v_textSize 0 v_cabmen v_readCabmen v_acts v_seen v_seed v_bestCleaning v_bestLayers v_bestMany v_underMany v_underLeast v_restMany v_restFirst v_text v_readLayer v_readCabman) := hD
    refine lv_aload_n hx hb d_PM_readHall_5 rfl (lv_at hl 0 rfl) ?_
    refine lv_iconst (v := 0) hx hb d_PM_readHall_6 (by decide) ?_
    refine pf_PM_84 hC hP hD hS 0 rfl (Nat.le_of_ble_eq_true rfl) d_PM_readHall_7 (fun H locs hP hD hS => ?_)
    have hP : va_P D classes (cs_PM_readHall cI cZ a_p0 a_text a_readLayer a_readCabman z_layer z_cabman z_page z_trial z_book z_kept z_isKept z_seenCabman z_seenFinger z_seenOff z_seenCame z_value z_shows v_thrown v_textSize 0 v_cabmen 0 v_acts v_seen v_seed v_bestCleaning v_bestLayers v_bestMany v_underMany v_underLeast v_restMany v_restFirst v_text v_readLayer v_readCabman) H := hP
    have hD : va_D A (cs_PM_readHall cI cZ a_p0 a_text a_readLayer a_readCabman z_layer z_cabman z_page z_trial z_book z_kept z_isKept z_seenCabman z_seenFinger z_seenOff z_seenCame z_value z_shows v_thrown v_textSize 0 v_cabmen 0 v_acts v_seen v_seed v_bestCleaning v_bestLayers v_bestMany v_underMany v_underLeast v_restMany v_restFirst v_text v_readLayer v_readCabman) := hD
    refine lv_aload_n hx hb d_PM_readHall_10 rfl (lv_at hl 0 rfl) ?_
    refine gf_PM_74 hC hP 0 rfl rfl d_PM_readHall_11 ?_
    refine lv_if_eq (tgt := 28) hx hb d_PM_readHall_14 (by decide) (fun c1 => ?_) (fun c1 => ?_)
    · have hf := o_pos c1 hf
      exact B_28 0 0 v_readLayer v_readCabman _ _ _ hP hD hS (lv_sub hl [] rfl) hf
    · have hf := o_neg c1 hf
      refine lv_aload_n hx hb d_PM_readHall_17 rfl (lv_at hl 0 rfl) ?_
      refine gf_PM_7 hC hP 0 rfl rfl d_PM_readHall_18 ?_
      refine lv_iconst (v := 0) hx hb d_PM_readHall_21 (by decide) ?_
      obtain ⟨v2, h3, hf⟩ := o_bind hf
      refine r_iald hC hP 1 rfl h3 d_PM_readHall_22 ?_
      refine lv_bipush (v := 80) hx hb d_PM_readHall_23 (by decide) ?_
      refine lv_icmp_eq (tgt := 30) hx hb d_PM_readHall_25 (by decide) (fun c4 => ?_) (fun c4 => ?_)
      · have hf := o_pos c4 hf
        refine lv_aload_n hx hb d_PM_readHall_30 rfl (lv_at hl 0 rfl) ?_
        refine lv_iconst (v := 1) hx hb d_PM_readHall_31 (by decide) ?_
        refine pf_PM_77 hC hP hD hS 0 rfl (Nat.le_of_ble_eq_true rfl) d_PM_readHall_32 (fun H locs hP hD hS => ?_)
        have hP : va_P D classes (cs_PM_readHall cI cZ a_p0 a_text a_readLayer a_readCabman z_layer z_cabman z_page z_trial z_book z_kept z_isKept z_seenCabman z_seenFinger z_seenOff z_seenCame z_value z_shows v_thrown v_textSize 1 v_cabmen 0 v_acts v_seen v_seed v_bestCleaning v_bestLayers v_bestMany v_underMany v_underLeast v_restMany v_restFirst v_text v_readLayer v_readCabman) H := hP
        have hD : va_D A (cs_PM_readHall cI cZ a_p0 a_text a_readLayer a_readCabman z_layer z_cabman z_page z_trial z_book z_kept z_isKept z_seenCabman z_seenFinger z_seenOff z_seenCame z_value z_shows v_thrown v_textSize 1 v_cabmen 0 v_acts v_seen v_seed v_bestCleaning v_bestLayers v_bestMany v_underMany v_underLeast v_restMany v_restFirst v_text v_readLayer v_readCabman) := hD
        refine lv_aload_n hx hb d_PM_readHall_35 rfl (lv_at hl 0 rfl) ?_
        obtain ⟨r5, h6, hf⟩ := o_bind hf
        refine cVi (rest := []) (wr := [(a_readCabman, .inl (cI, 30, .inl v_readCabman))]) (wn := (cs_PM_readHall cI cZ a_p0 a_text a_readLayer a_readCabman z_layer z_cabman z_page z_trial z_book z_kept z_isKept z_seenCabman z_seenFinger z_seenOff z_seenCame z_value z_shows v_thrown v_textSize r5.2.1 v_cabmen 0 v_acts v_seen v_seed v_bestCleaning v_bestLayers v_bestMany v_underMany v_underLeast v_restMany v_restFirst v_text r5.2.2 v_readCabman)) (c_PM_readLayers l D cI cZ a_p0 a_text a_readLayer z_layer z_cabman a_readCabman z_page z_trial z_book z_kept z_isKept z_seenCabman z_seenFinger z_seenOff z_seenCame z_value z_shows v_thrown v_textSize 1 v_cabmen 0 v_acts v_seen v_seed v_bestCleaning v_bestLayers v_bestMany v_underMany v_underLeast v_restMany v_restFirst v_text v_readLayer r5 h6) hC hA hP hD hS hl.1 cw_PM_87 0 rfl rfl rfl ⟨Nat.le_of_ble_eq_true rfl, Nat.le_of_ble_eq_true rfl⟩ rfl rfl (Nat.le_of_ble_eq_true rfl) d_PM_readHall_36 ⟨Nat.zero_le _, Nat.zero_le _⟩ [0, 1, 2] [3] [1, 2, 3, 0] (by decide) (Cut_mk rfl rfl (by decide) (by decide) (by decide) rfl) (fun H locs hP hD hS => ?_)
        refine lv_if_ne (tgt := 47) hx hb d_PM_readHall_39 (by decide) (fun c7 => ?_) (fun c7 => ?_)
        · have hf := o_neg c7 hf
          exact B_47 300 r5.2.1 0 r5.2.2 v_readCabman _ _ _ hP hD hS (lv_sub hl [0] rfl) hf
        · have hf := o_pos c7 hf
          refine lv_aload_n hx hb d_PM_readHall_42 rfl (lv_at hl 0 rfl) ?_
          refine gf_PM_77 hC hP 0 rfl rfl d_PM_readHall_43 ?_
          have hr := Option.some.inj hf
          exact RET _ _ _ _ _ _ rfl (congrArg (fun r : Int32 × Int32 × Int32 × (Nat → Int32) × (Nat → Int32) => r.1) hr) (congrArg (fun r : Int32 × Int32 × Int32 × (Nat → Int32) × (Nat → Int32) => (cs_PM_readHall cI cZ a_p0 a_text a_readLayer a_readCabman z_layer z_cabman z_page z_trial z_book z_kept z_isKept z_seenCabman z_seenFinger z_seenOff z_seenCame z_value z_shows v_thrown v_textSize r.2.1 v_cabmen r.2.2.1 v_acts v_seen v_seed v_bestCleaning v_bestLayers v_bestMany v_underMany v_underLeast v_restMany v_restFirst v_text r.2.2.2.1 r.2.2.2.2)) hr) hP hD hS d_PM_readHall_46
      · have hf := o_neg c4 hf
        exact B_28 0 0 v_readLayer v_readCabman _ _ _ hP hD hS (lv_sub hl [] rfl) hf
  exact E _ _ hP hS
set_option maxHeartbeats 4000000 in
set_option maxRecDepth 100000 in
theorem c_PM_fault (l : Launch) (D : va_G) (cI cZ : ClassId) (a_p0 a_text a_readLayer a_readCabman z_layer z_cabman z_page z_trial z_book z_kept z_isKept z_seenCabman z_seenFinger z_seenOff z_seenCame z_value z_shows : Nat) (v_thrown : Int32) (v_textSize : Int32) (v_place : Int32) (v_cabmen : Int32) (v_readCabmen : Int32) (v_acts : Int32) (v_seen : Int32) (v_seed : Int64) (v_bestCleaning : Int32) (v_bestLayers : Int32) (v_bestMany : Int32) (v_underMany : Int32) (v_underLeast : Int32) (v_restMany : Int32) (v_restFirst : Int32) (v_text : Nat → Int32) (v_readLayer : Nat → Int32) (v_readCabman : Nat → Int32) (res : Int32 × Int32 × Int32 × Int32 × (Nat → Int32) × (Nat → Int32)) (hf : f_PM_fault v_textSize v_text v_thrown v_place v_readCabmen v_readLayer v_readCabman = some res) : CtI l y_PM_fault b_PM_fault 1 (some .int) 4 D cI cZ [.ref a_p0] (cs_PM_fault cI cZ a_p0 a_text a_readLayer a_readCabman z_layer z_cabman z_page z_trial z_book z_kept z_isKept z_seenCabman z_seenFinger z_seenOff z_seenCame z_value z_shows v_thrown v_textSize v_place v_cabmen v_readCabmen v_acts v_seen v_seed v_bestCleaning v_bestLayers v_bestMany v_underMany v_underLeast v_restMany v_restFirst v_text v_readLayer v_readCabman) res.1 (cs_PM_fault cI cZ a_p0 a_text a_readLayer a_readCabman z_layer z_cabman z_page z_trial z_book z_kept z_isKept z_seenCabman z_seenFinger z_seenOff z_seenCame z_value z_shows res.2.1 v_textSize res.2.2.1 v_cabmen res.2.2.2.1 v_acts v_seen v_seed v_bestCleaning v_bestLayers v_bestMany v_underMany v_underLeast v_restMany v_restFirst v_text res.2.2.2.2.1 res.2.2.2.2.2) := by
  refine CtI_mk (by decide) (Nat.le_of_ble_eq_true rfl) ?_
  intro p e s m args below meth c A Q hC hA hP hD RET ls hl
  have hC : Cx p s m args meth c b_PM_fault 1 R_PM D cI cZ := hC
  have hl : lv_has ls 1 [(0, .ref a_p0)] := hl
  obtain ⟨hx, hb, hml, hown, hts, hlk, hKK⟩ := id hC
  have hS : va_S A s.heap s.heap [] := va_S.rf
  unfold f_PM_fault at hf
  have E : ∀ (H : Heap) (locs : List Loc), va_P D classes (cs_PM_fault cI cZ a_p0 a_text a_readLayer a_readCabman z_layer z_cabman z_page z_trial z_book z_kept z_isKept z_seenCabman z_seenFinger z_seenOff z_seenCame z_value z_shows v_thrown v_textSize v_place v_cabmen v_readCabmen v_acts v_seen v_seed v_bestCleaning v_bestLayers v_bestMany v_underMany v_underLeast v_restMany v_restFirst v_text v_readLayer v_readCabman) H → va_S A s.heap H locs → W p l e (rm_ 4 (40 * 4)) s m args below meth c H locs 0 0 Q (F0 m 0 ls []) := by
    intro H locs hP hS
    refine lv_aload_n hx hb d_PM_fault_0 rfl (lv_at hl 0 rfl) ?_
    refine lv_iconst (v := 0) hx hb d_PM_fault_1 (by decide) ?_
    refine pf_PM_59 hC hP hD hS 0 rfl (Nat.le_of_ble_eq_true rfl) d_PM_fault_2 (fun H locs hP hD hS => ?_)
    have hP : va_P D classes (cs_PM_fault cI cZ a_p0 a_text a_readLayer a_readCabman z_layer z_cabman z_page z_trial z_book z_kept z_isKept z_seenCabman z_seenFinger z_seenOff z_seenCame z_value z_shows 0 v_textSize v_place v_cabmen v_readCabmen v_acts v_seen v_seed v_bestCleaning v_bestLayers v_bestMany v_underMany v_underLeast v_restMany v_restFirst v_text v_readLayer v_readCabman) H := hP
    have hD : va_D A (cs_PM_fault cI cZ a_p0 a_text a_readLayer a_readCabman z_layer z_cabman z_page z_trial z_book z_kept z_isKept z_seenCabman z_seenFinger z_seenOff z_seenCame z_value z_shows 0 v_textSize v_place v_cabmen v_readCabmen v_acts v_seen v_seed v_bestCleaning v_bestLayers v_bestMany v_underMany v_underLeast v_restMany v_restFirst v_text v_readLayer v_readCabman) := hD
    refine lv_aload_n hx hb d_PM_fault_5 rfl (lv_at hl 0 rfl) ?_
    obtain ⟨r1, h2, hf⟩ := o_bind hf
    refine cVi (rest := []) (wr := []) (wn := (cs_PM_fault cI cZ a_p0 a_text a_readLayer a_readCabman z_layer z_cabman z_page z_trial z_book z_kept z_isKept z_seenCabman z_seenFinger z_seenOff z_seenCame z_value z_shows 0 v_textSize r1.2.1 v_cabmen r1.2.2.1 v_acts v_seen v_seed v_bestCleaning v_bestLayers v_bestMany v_underMany v_underLeast v_restMany v_restFirst v_text r1.2.2.2.1 r1.2.2.2.2)) (c_PM_readHall l D cI cZ a_p0 a_text a_readLayer a_readCabman z_layer z_cabman z_page z_trial z_book z_kept z_isKept z_seenCabman z_seenFinger z_seenOff z_seenCame z_value z_shows 0 v_textSize v_place v_cabmen v_readCabmen v_acts v_seen v_seed v_bestCleaning v_bestLayers v_bestMany v_underMany v_underLeast v_restMany v_restFirst v_text v_readLayer v_readCabman r1 h2) hC hA hP hD hS hl.1 cw_PM_94 0 rfl rfl rfl ⟨Nat.le_of_ble_eq_true rfl, Nat.le_of_ble_eq_true rfl⟩ rfl rfl (Nat.le_of_ble_eq_true rfl) d_PM_fault_6 ⟨Nat.zero_le _, Nat.zero_le _⟩ [0, 1, 2, 3] [] [0, 1, 2, 3] (by decide) (Cut_mk rfl rfl (by decide) (by decide) (by decide) rfl) (fun H locs hP hD hS => ?_)
    have hr := Option.some.inj hf
    exact RET _ _ _ _ _ _ rfl (congrArg (fun r : Int32 × Int32 × Int32 × Int32 × (Nat → Int32) × (Nat → Int32) => r.1) hr) (congrArg (fun r : Int32 × Int32 × Int32 × Int32 × (Nat → Int32) × (Nat → Int32) => (cs_PM_fault cI cZ a_p0 a_text a_readLayer a_readCabman z_layer z_cabman z_page z_trial z_book z_kept z_isKept z_seenCabman z_seenFinger z_seenOff z_seenCame z_value z_shows r.2.1 v_textSize r.2.2.1 v_cabmen r.2.2.2.1 v_acts v_seen v_seed v_bestCleaning v_bestLayers v_bestMany v_underMany v_underLeast v_restMany v_restFirst v_text r.2.2.2.2.1 r.2.2.2.2.2)) hr) hP hD hS d_PM_fault_9
  exact E _ _ hP hS
set_option maxHeartbeats 4000000 in
set_option maxRecDepth 100000 in
theorem c_PM_hall (l : Launch) (D : va_G) (cI cZ : ClassId) (a_p0 a_text a_layer a_cabman a_readLayer a_readCabman a_page a_isKept z_trial z_book z_kept z_seenCabman z_seenFinger z_seenOff z_seenCame z_value z_shows : Nat) (v_thrown : Int32) (v_textSize : Int32) (v_place : Int32) (v_cabmen : Int32) (v_readCabmen : Int32) (v_acts : Int32) (v_seen : Int32) (v_seed : Int64) (v_bestCleaning : Int32) (v_bestLayers : Int32) (v_bestMany : Int32) (v_underMany : Int32) (v_underLeast : Int32) (v_restMany : Int32) (v_restFirst : Int32) (v_text : Nat → Int32) (v_layer : Nat → Int32) (v_cabman : Nat → Int32) (v_readLayer : Nat → Int32) (v_readCabman : Nat → Int32) (v_page : Nat → Int32) (v_isKept : Nat → Int32) (res : Int32 × Int32 × Int32 × Int32 × Int32 × Int32 × (Nat → Int32) × (Nat → Int32) × (Nat → Int32) × (Nat → Int32) × (Nat → Int32) × (Nat → Int32)) (hf : f_PM_hall v_textSize v_text v_thrown v_place v_cabmen v_readCabmen v_acts v_layer v_cabman v_readLayer v_readCabman v_page v_isKept = some res) : CtI l y_PM_hall b_PM_hall 2 (some .int) 4 D cI cZ [.ref a_p0] (cs_PM_hall cI cZ a_p0 a_text a_layer a_cabman a_readLayer a_readCabman a_page a_isKept z_trial z_book z_kept z_seenCabman z_seenFinger z_seenOff z_seenCame z_value z_shows v_thrown v_textSize v_place v_cabmen v_readCabmen v_acts v_seen v_seed v_bestCleaning v_bestLayers v_bestMany v_underMany v_underLeast v_restMany v_restFirst v_text v_layer v_cabman v_readLayer v_readCabman v_page v_isKept) res.1 (cs_PM_hall cI cZ a_p0 a_text a_layer a_cabman a_readLayer a_readCabman a_page a_isKept z_trial z_book z_kept z_seenCabman z_seenFinger z_seenOff z_seenCame z_value z_shows res.2.1 v_textSize res.2.2.1 res.2.2.2.1 res.2.2.2.2.1 res.2.2.2.2.2.1 v_seen v_seed v_bestCleaning v_bestLayers v_bestMany v_underMany v_underLeast v_restMany v_restFirst v_text res.2.2.2.2.2.2.1 res.2.2.2.2.2.2.2.1 res.2.2.2.2.2.2.2.2.1 res.2.2.2.2.2.2.2.2.2.1 res.2.2.2.2.2.2.2.2.2.2.1 res.2.2.2.2.2.2.2.2.2.2.2) := by
  refine CtI_mk (by decide) (Nat.le_of_ble_eq_true rfl) ?_
  intro p e s m args below meth c A Q hC hA hP hD RET ls hl
  have hC : Cx p s m args meth c b_PM_hall 2 R_PM D cI cZ := hC
  have hl : lv_has ls 2 [(0, .ref a_p0)] := hl
  obtain ⟨hx, hb, hml, hown, hts, hlk, hKK⟩ := id hC
  have hS : va_S A s.heap s.heap [] := va_S.rf
  have B_115 : ∀ (back_84 : Int32 → Int32 → Int32 → Int32 → Int32 → Int32 → (Nat → Int32) → (Nat → Int32) → (Nat → Int32) → (Nat → Int32) → (Nat → Int32) → (Nat → Int32) → Option (Int32 × Int32 × Int32 × Int32 × Int32 × Int32 × (Nat → Int32) × (Nat → Int32) × (Nat → Int32) × (Nat → Int32) × (Nat → Int32) × (Nat → Int32))) (K_84 : ∀ (x1 : Int32) (v_thrown : Int32) (v_place : Int32) (v_cabmen : Int32) (v_readCabmen : Int32) (v_acts : Int32) (v_layer : Nat → Int32) (v_cabman : Nat → Int32) (v_readLayer : Nat → Int32) (v_readCabman : Nat → Int32) (v_page : Nat → Int32) (v_isKept : Nat → Int32) (H : Heap) (locs : List Loc) (ls : Array Slot), va_P D classes (cs_PM_hall cI cZ a_p0 a_text a_layer a_cabman a_readLayer a_readCabman a_page a_isKept z_trial z_book z_kept z_seenCabman z_seenFinger z_seenOff z_seenCame z_value z_shows v_thrown v_textSize v_place v_cabmen v_readCabmen v_acts v_seen v_seed v_bestCleaning v_bestLayers v_bestMany v_underMany v_underLeast v_restMany v_restFirst v_text v_layer v_cabman v_readLayer v_readCabman v_page v_isKept) H → va_D A (cs_PM_hall cI cZ a_p0 a_text a_layer a_cabman a_readLayer a_readCabman a_page a_isKept z_trial z_book z_kept z_seenCabman z_seenFinger z_seenOff z_seenCame z_value z_shows v_thrown v_textSize v_place v_cabmen v_readCabmen v_acts v_seen v_seed v_bestCleaning v_bestLayers v_bestMany v_underMany v_underLeast v_restMany v_restFirst v_text v_layer v_cabman v_readLayer v_readCabman v_page v_isKept) → va_S A s.heap H locs → lv_has ls 2 [(0, .ref a_p0), (1, .int x1)] → back_84 x1 v_thrown v_place v_cabmen v_readCabmen v_acts v_layer v_cabman v_readLayer v_readCabman v_page v_isKept = some res → W p l e (rm_ 4 (40 * 4)) s m args below meth c H locs 0 0 Q (F0 m 84 ls [])) (x1 : Int32) (w1 : Int32) (w2 : Int32) (v_thrown : Int32) (v_place : Int32) (v_cabmen : Int32) (v_readCabmen : Int32) (v_acts : Int32) (v_layer : Nat → Int32) (v_cabman : Nat → Int32) (v_readLayer : Nat → Int32) (v_readCabman : Nat → Int32) (v_page : Nat → Int32) (v_isKept : Nat → Int32) (H : Heap) (locs : List Loc) (ls : Array Slot), va_P D classes (cs_PM_hall cI cZ a_p0 a_text a_layer a_cabman a_readLayer a_readCabman a_page a_isKept z_trial z_book z_kept z_seenCabman z_seenFinger z_seenOff z_seenCame z_value z_shows v_thrown v_textSize v_place v_cabmen v_readCabmen v_acts v_seen v_seed v_bestCleaning v_bestLayers v_bestMany v_underMany v_underLeast v_restMany v_restFirst v_text v_layer v_cabman v_readLayer v_readCabman v_page v_isKept) H → va_D A (cs_PM_hall cI cZ a_p0 a_text a_layer a_cabman a_readLayer a_readCabman a_page a_isKept z_trial z_book z_kept z_seenCabman z_seenFinger z_seenOff z_seenCame z_value z_shows v_thrown v_textSize v_place v_cabmen v_readCabmen v_acts v_seen v_seed v_bestCleaning v_bestLayers v_bestMany v_underMany v_underLeast v_restMany v_restFirst v_text v_layer v_cabman v_readLayer v_readCabman v_page v_isKept) → va_S A s.heap H locs → lv_has ls 2 [(0, .ref a_p0), (1, .int x1)] → f_PM_hall_115 back_84 v_textSize v_text x1 w1 w2 v_thrown v_place v_cabmen v_readCabmen v_acts v_layer v_cabman v_readLayer v_readCabman v_page v_isKept = some res → W p l e (rm_ 4 (40 * 4)) s m args below meth c H locs 0 0 Q (F0 m 115 ls [.int w2, .int w1, .ref a_page]) := by
    intro back_84 K_84 x1 w1 w2 v_thrown v_place v_cabmen v_readCabmen v_acts v_layer v_cabman v_readLayer v_readCabman v_page v_isKept H locs ls hP hD hS hl hf
    unfold f_PM_hall_115 at hf
    obtain ⟨g1, h2, hf⟩ := o_bind hf
    refine r_iast hC hP hD hS 6 rfl h2 d_PM_hall_115 (fun H locs hP hD hS => ?_)
    have hP : va_P D classes (cs_PM_hall cI cZ a_p0 a_text a_layer a_cabman a_readLayer a_readCabman a_page a_isKept z_trial z_book z_kept z_seenCabman z_seenFinger z_seenOff z_seenCame z_value z_shows v_thrown v_textSize v_place v_cabmen v_readCabmen v_acts v_seen v_seed v_bestCleaning v_bestLayers v_bestMany v_underMany v_underLeast v_restMany v_restFirst v_text v_layer v_cabman v_readLayer v_readCabman g1 v_isKept) H := hP
    have hD : va_D A (cs_PM_hall cI cZ a_p0 a_text a_layer a_cabman a_readLayer a_readCabman a_page a_isKept z_trial z_book z_kept z_seenCabman z_seenFinger z_seenOff z_seenCame z_value z_shows v_thrown v_textSize v_place v_cabmen v_readCabmen v_acts v_seen v_seed v_bestCleaning v_bestLayers v_bestMany v_underMany v_underLeast v_restMany v_restFirst v_text v_layer v_cabman v_readLayer v_readCabman g1 v_isKept) := hD
    refine lv_iinc (v := x1 + 1) (lv' := [(1, .int (x1 + 1)), (0, .ref a_p0)]) hx hb d_PM_hall_116 hl (k := 1) rfl (rfl) (by decide) rfl (fun ls hl => ?_)
    refine lv_goto (tgt := 84) hx hb d_PM_hall_119 (by decide) ?_
    exact K_84 (x1 + 1) v_thrown v_place v_cabmen v_readCabmen v_acts v_layer v_cabman v_readLayer v_readCabman g1 v_isKept _ _ _ hP hD hS (lv_sub hl [1, 0] rfl) hf
  have B_84 : ∀  (n : Nat) (x1 : Int32) (v_thrown : Int32) (v_place : Int32) (v_cabmen : Int32) (v_readCabmen : Int32) (v_acts : Int32) (v_layer : Nat → Int32) (v_cabman : Nat → Int32) (v_readLayer : Nat → Int32) (v_readCabman : Nat → Int32) (v_page : Nat → Int32) (v_isKept : Nat → Int32) (H : Heap) (locs : List Loc) (ls : Array Slot), va_P D classes (cs_PM_hall cI cZ a_p0 a_text a_layer a_cabman a_readLayer a_readCabman a_page a_isKept z_trial z_book z_kept z_seenCabman z_seenFinger z_seenOff z_seenCame z_value z_shows v_thrown v_textSize v_place v_cabmen v_readCabmen v_acts v_seen v_seed v_bestCleaning v_bestLayers v_bestMany v_underMany v_underLeast v_restMany v_restFirst v_text v_layer v_cabman v_readLayer v_readCabman v_page v_isKept) H → va_D A (cs_PM_hall cI cZ a_p0 a_text a_layer a_cabman a_readLayer a_readCabman a_page a_isKept z_trial z_book z_kept z_seenCabman z_seenFinger z_seenOff z_seenCame z_value z_shows v_thrown v_textSize v_place v_cabmen v_readCabmen v_acts v_seen v_seed v_bestCleaning v_bestLayers v_bestMany v_underMany v_underLeast v_restMany v_restFirst v_text v_layer v_cabman v_readLayer v_readCabman v_page v_isKept) → va_S A s.heap H locs → lv_has ls 2 [(0, .ref a_p0), (1, .int x1)] → f_PM_hall_84  v_textSize v_text n x1 v_thrown v_place v_cabmen v_readCabmen v_acts v_layer v_cabman v_readLayer v_readCabman v_page v_isKept = some res → W p l e (rm_ 4 (40 * 4)) s m args below meth c H locs 0 0 Q (F0 m 84 ls []) := by
    intro  n
    induction n with
    | zero => intro x1 v_thrown v_place v_cabmen v_readCabmen v_acts v_layer v_cabman v_readLayer v_readCabman v_page v_isKept H locs ls hP hD hS hl hf; exact nomatch hf
    | succ n ih =>
      intro x1 v_thrown v_place v_cabmen v_readCabmen v_acts v_layer v_cabman v_readLayer v_readCabman v_page v_isKept H locs ls hP hD hS hl hf
      have hf : f_PM_hall_84_b  (f_PM_hall_84  v_textSize v_text n) v_textSize v_text x1 v_thrown v_place v_cabmen v_readCabmen v_acts v_layer v_cabman v_readLayer v_readCabman v_page v_isKept = some res := hf
      generalize f_PM_hall_84  v_textSize v_text n = back_84 at ih hf
      have K_84 := ih
      unfold f_PM_hall_84_b at hf
      refine lv_iload_n hx hb d_PM_hall_84 rfl (lv_at hl 1 rfl) ?_
      refine lv_bipush (v := 16) hx hb d_PM_hall_85 (by decide) ?_
      refine lv_icmp_ge (tgt := 122) hx hb d_PM_hall_87 (by decide) (fun c1 => ?_) (fun c1 => ?_)
      · have hf := o_pos c1 hf
        refine lv_aload_n hx hb d_PM_hall_122 rfl (lv_at hl 0 rfl) ?_
        refine lv_iconst (v := 0) hx hb d_PM_hall_123 (by decide) ?_
        refine pf_PM_102 hC hP hD hS 0 rfl (Nat.le_of_ble_eq_true rfl) d_PM_hall_124 (fun H locs hP hD hS => ?_)
        have hP : va_P D classes (cs_PM_hall cI cZ a_p0 a_text a_layer a_cabman a_readLayer a_readCabman a_page a_isKept z_trial z_book z_kept z_seenCabman z_seenFinger z_seenOff z_seenCame z_value z_shows v_thrown v_textSize v_place v_cabmen v_readCabmen 0 v_seen v_seed v_bestCleaning v_bestLayers v_bestMany v_underMany v_underLeast v_restMany v_restFirst v_text v_layer v_cabman v_readLayer v_readCabman v_page v_isKept) H := hP
        have hD : va_D A (cs_PM_hall cI cZ a_p0 a_text a_layer a_cabman a_readLayer a_readCabman a_page a_isKept z_trial z_book z_kept z_seenCabman z_seenFinger z_seenOff z_seenCame z_value z_shows v_thrown v_textSize v_place v_cabmen v_readCabmen 0 v_seen v_seed v_bestCleaning v_bestLayers v_bestMany v_underMany v_underLeast v_restMany v_restFirst v_text v_layer v_cabman v_readLayer v_readCabman v_page v_isKept) := hD
        refine lv_aload_n hx hb d_PM_hall_127 rfl (lv_at hl 0 rfl) ?_
        refine gf_PM_37 hC hP 0 rfl rfl d_PM_hall_128 ?_
        refine lv_iconst (v := 0) hx hb d_PM_hall_131 (by decide) ?_
        refine lv_iconst (v := 0) hx hb d_PM_hall_132 (by decide) ?_
        obtain ⟨g2, h3, hf⟩ := o_bind hf
        refine r_zast hC hP hD hS 7 rfl rfl h3 d_PM_hall_133 (fun H locs hP hD hS => ?_)
        have hP : va_P D classes (cs_PM_hall cI cZ a_p0 a_text a_layer a_cabman a_readLayer a_readCabman a_page a_isKept z_trial z_book z_kept z_seenCabman z_seenFinger z_seenOff z_seenCame z_value z_shows v_thrown v_textSize v_place v_cabmen v_readCabmen 0 v_seen v_seed v_bestCleaning v_bestLayers v_bestMany v_underMany v_underLeast v_restMany v_restFirst v_text v_layer v_cabman v_readLayer v_readCabman v_page g2) H := hP
        have hD : va_D A (cs_PM_hall cI cZ a_p0 a_text a_layer a_cabman a_readLayer a_readCabman a_page a_isKept z_trial z_book z_kept z_seenCabman z_seenFinger z_seenOff z_seenCame z_value z_shows v_thrown v_textSize v_place v_cabmen v_readCabmen 0 v_seen v_seed v_bestCleaning v_bestLayers v_bestMany v_underMany v_underLeast v_restMany v_restFirst v_text v_layer v_cabman v_readLayer v_readCabman v_page g2) := hD
        refine lv_aload_n hx hb d_PM_hall_134 rfl (lv_at hl 0 rfl) ?_
        refine gf_PM_37 hC hP 0 rfl rfl d_PM_hall_135 ?_
        refine lv_iconst (v := 1) hx hb d_PM_hall_138 (by decide) ?_
        refine lv_iconst (v := 0) hx hb d_PM_hall_139 (by decide) ?_
        obtain ⟨g4, h5, hf⟩ := o_bind hf
        refine r_zast hC hP hD hS 7 rfl rfl h5 d_PM_hall_140 (fun H locs hP hD hS => ?_)
        have hP : va_P D classes (cs_PM_hall cI cZ a_p0 a_text a_layer a_cabman a_readLayer a_readCabman a_page a_isKept z_trial z_book z_kept z_seenCabman z_seenFinger z_seenOff z_seenCame z_value z_shows v_thrown v_textSize v_place v_cabmen v_readCabmen 0 v_seen v_seed v_bestCleaning v_bestLayers v_bestMany v_underMany v_underLeast v_restMany v_restFirst v_text v_layer v_cabman v_readLayer v_readCabman v_page g4) H := hP
        have hD : va_D A (cs_PM_hall cI cZ a_p0 a_text a_layer a_cabman a_readLayer a_readCabman a_page a_isKept z_trial z_book z_kept z_seenCabman z_seenFinger z_seenOff z_seenCame z_value z_shows v_thrown v_textSize v_place v_cabmen v_readCabmen 0 v_seen v_seed v_bestCleaning v_bestLayers v_bestMany v_underMany v_underLeast v_restMany v_restFirst v_text v_layer v_cabman v_readLayer v_readCabman v_page g4) := hD
        refine lv_aload_n hx hb d_PM_hall_141 rfl (lv_at hl 0 rfl) ?_
        refine gf_PM_63 hC hP 0 rfl rfl d_PM_hall_142 ?_
        have hr := Option.some.inj hf
        exact RET _ _ _ _ _ _ rfl (congrArg (fun r : Int32 × Int32 × Int32 × Int32 × Int32 × Int32 × (Nat → Int32) × (Nat → Int32) × (Nat → Int32) × (Nat → Int32) × (Nat → Int32) × (Nat → Int32) => r.1) hr) (congrArg (fun r : Int32 × Int32 × Int32 × Int32 × Int32 × Int32 × (Nat → Int32) × (Nat → Int32) × (Nat → Int32) × (Nat → Int32) × (Nat → Int32) × (Nat → Int32) => (cs_PM_hall cI cZ a_p0 a_text a_layer a_cabman a_readLayer a_readCabman a_page a_isKept z_trial z_book z_kept z_seenCabman z_seenFinger z_seenOff z_seenCame z_value z_shows r.2.1 v_textSize r.2.2.1 r.2.2.2.1 r.2.2.2.2.1 r.2.2.2.2.2.1 v_seen v_seed v_bestCleaning v_bestLayers v_bestMany v_underMany v_underLeast v_restMany v_restFirst v_text r.2.2.2.2.2.2.1 r.2.2.2.2.2.2.2.1 r.2.2.2.2.2.2.2.2.1 r.2.2.2.2.2.2.2.2.2.1 r.2.2.2.2.2.2.2.2.2.2.1 r.2.2.2.2.2.2.2.2.2.2.2)) hr) hP hD hS d_PM_hall_145
      · have hf := o_neg c1 hf
        refine lv_aload_n hx hb d_PM_hall_90 rfl (lv_at hl 0 rfl) ?_
        refine gf_PM_25 hC hP 0 rfl rfl d_PM_hall_91 ?_
        refine lv_iload_n hx hb d_PM_hall_94 rfl (lv_at hl 1 rfl) ?_
        refine lv_iload_n hx hb d_PM_hall_95 rfl (lv_at hl 1 rfl) ?_
        refine lv_i2l (v := Int32.toInt64 x1) hx hb d_PM_hall_96 rfl ?_
        refine lv_ldc2 (v := 10) hx hb hown (hts _ g642) d_PM_hall_97 ?_
        refine lv_ldc2 (v := 14) hx hb hown (hts _ g643) d_PM_hall_100 ?_
        obtain ⟨r6, h7, hf⟩ := o_bind hf
        refine cSi0 (rest := [.int x1, .ref a_page]) (c_PM_in l D cI cZ (Int32.toInt64 x1) 10 14 r6 h7) hC hA hP hD hS hl.1 cw_PM_66 ⟨Nat.le_of_ble_eq_true rfl, Nat.le_of_ble_eq_true rfl⟩ rfl rfl (Nat.le_of_ble_eq_true rfl) d_PM_hall_103 ⟨Nat.zero_le _, Nat.zero_le _⟩ (fun H locs hP hS => ?_)
        refine lv_if_eq (tgt := 114) hx hb d_PM_hall_106 (by decide) (fun c8 => ?_) (fun c8 => ?_)
        · have hf := o_pos c8 hf
          refine lv_iconst (v := 0) hx hb d_PM_hall_114 (by decide) ?_
          exact B_115 back_84 K_84 x1 x1 0 v_thrown v_place v_cabmen v_readCabmen v_acts v_layer v_cabman v_readLayer v_readCabman v_page v_isKept _ _ _ hP hD hS (lv_sub hl [0, 1] rfl) hf
        · have hf := o_neg c8 hf
          refine lv_bipush (v := (-9)) hx hb d_PM_hall_109 (by decide) ?_
          refine lv_goto (tgt := 115) hx hb d_PM_hall_111 (by decide) ?_
          exact B_115 back_84 K_84 x1 x1 ((-9)) v_thrown v_place v_cabmen v_readCabmen v_acts v_layer v_cabman v_readLayer v_readCabman v_page v_isKept _ _ _ hP hD hS (lv_sub hl [0, 1] rfl) hf
  have B_53 : ∀  (n : Nat) (x1 : Int32) (v_thrown : Int32) (v_place : Int32) (v_cabmen : Int32) (v_readCabmen : Int32) (v_acts : Int32) (v_layer : Nat → Int32) (v_cabman : Nat → Int32) (v_readLayer : Nat → Int32) (v_readCabman : Nat → Int32) (v_page : Nat → Int32) (v_isKept : Nat → Int32) (H : Heap) (locs : List Loc) (ls : Array Slot), va_P D classes (cs_PM_hall cI cZ a_p0 a_text a_layer a_cabman a_readLayer a_readCabman a_page a_isKept z_trial z_book z_kept z_seenCabman z_seenFinger z_seenOff z_seenCame z_value z_shows v_thrown v_textSize v_place v_cabmen v_readCabmen v_acts v_seen v_seed v_bestCleaning v_bestLayers v_bestMany v_underMany v_underLeast v_restMany v_restFirst v_text v_layer v_cabman v_readLayer v_readCabman v_page v_isKept) H → va_D A (cs_PM_hall cI cZ a_p0 a_text a_layer a_cabman a_readLayer a_readCabman a_page a_isKept z_trial z_book z_kept z_seenCabman z_seenFinger z_seenOff z_seenCame z_value z_shows v_thrown v_textSize v_place v_cabmen v_readCabmen v_acts v_seen v_seed v_bestCleaning v_bestLayers v_bestMany v_underMany v_underLeast v_restMany v_restFirst v_text v_layer v_cabman v_readLayer v_readCabman v_page v_isKept) → va_S A s.heap H locs → lv_has ls 2 [(0, .ref a_p0), (1, .int x1)] → f_PM_hall_53  v_textSize v_text n x1 v_thrown v_place v_cabmen v_readCabmen v_acts v_layer v_cabman v_readLayer v_readCabman v_page v_isKept = some res → W p l e (rm_ 4 (40 * 4)) s m args below meth c H locs 0 0 Q (F0 m 53 ls []) := by
    intro  n
    induction n with
    | zero => intro x1 v_thrown v_place v_cabmen v_readCabmen v_acts v_layer v_cabman v_readLayer v_readCabman v_page v_isKept H locs ls hP hD hS hl hf; exact nomatch hf
    | succ n ih =>
      intro x1 v_thrown v_place v_cabmen v_readCabmen v_acts v_layer v_cabman v_readLayer v_readCabman v_page v_isKept H locs ls hP hD hS hl hf
      have hf : f_PM_hall_53_b  (f_PM_hall_53  v_textSize v_text n) v_textSize v_text x1 v_thrown v_place v_cabmen v_readCabmen v_acts v_layer v_cabman v_readLayer v_readCabman v_page v_isKept = some res := hf
      generalize f_PM_hall_53  v_textSize v_text n = back_53 at ih hf
      have K_53 := ih
      unfold f_PM_hall_53_b at hf
      refine lv_iload_n hx hb d_PM_hall_53 rfl (lv_at hl 1 rfl) ?_
      refine lv_bipush (v := 6) hx hb d_PM_hall_54 (by decide) ?_
      refine lv_aload_n hx hb d_PM_hall_56 rfl (lv_at hl 0 rfl) ?_
      refine gf_PM_63 hC hP 0 rfl rfl d_PM_hall_57 ?_
      refine lv_imul hx hb d_PM_hall_60 ?_
      refine lv_icmp_ge (tgt := 82) hx hb d_PM_hall_61 (by decide) (fun c1 => ?_) (fun c1 => ?_)
      · have hf := o_pos c1 hf
        refine lv_iconst (v := 0) hx hb d_PM_hall_82 (by decide) ?_
        refine lv_istore_n (lv' := [(1, .int 0), (0, .ref a_p0)]) hx hb d_PM_hall_83 rfl hl (by decide) rfl (fun ls hl => ?_)
        exact B_84 300 0 v_thrown v_place v_cabmen v_readCabmen v_acts v_layer v_cabman v_readLayer v_readCabman v_page v_isKept _ _ _ hP hD hS (lv_sub hl [1, 0] rfl) hf
      · have hf := o_neg c1 hf
        refine lv_aload_n hx hb d_PM_hall_64 rfl (lv_at hl 0 rfl) ?_
        refine gf_PM_16 hC hP 0 rfl rfl d_PM_hall_65 ?_
        refine lv_iload_n hx hb d_PM_hall_68 rfl (lv_at hl 1 rfl) ?_
        refine lv_aload_n hx hb d_PM_hall_69 rfl (lv_at hl 0 rfl) ?_
        refine gf_PM_22 hC hP 0 rfl rfl d_PM_hall_70 ?_
        refine lv_iload_n hx hb d_PM_hall_73 rfl (lv_at hl 1 rfl) ?_
        obtain ⟨v2, h3, hf⟩ := o_bind hf
        refine r_iald hC hP 5 rfl h3 d_PM_hall_74 ?_
        obtain ⟨g4, h5, hf⟩ := o_bind hf
        refine r_iast hC hP hD hS 3 rfl h5 d_PM_hall_75 (fun H locs hP hD hS => ?_)
        have hP : va_P D classes (cs_PM_hall cI cZ a_p0 a_text a_layer a_cabman a_readLayer a_readCabman a_page a_isKept z_trial z_book z_kept z_seenCabman z_seenFinger z_seenOff z_seenCame z_value z_shows v_thrown v_textSize v_place v_cabmen v_readCabmen v_acts v_seen v_seed v_bestCleaning v_bestLayers v_bestMany v_underMany v_underLeast v_restMany v_restFirst v_text v_layer g4 v_readLayer v_readCabman v_page v_isKept) H := hP
        have hD : va_D A (cs_PM_hall cI cZ a_p0 a_text a_layer a_cabman a_readLayer a_readCabman a_page a_isKept z_trial z_book z_kept z_seenCabman z_seenFinger z_seenOff z_seenCame z_value z_shows v_thrown v_textSize v_place v_cabmen v_readCabmen v_acts v_seen v_seed v_bestCleaning v_bestLayers v_bestMany v_underMany v_underLeast v_restMany v_restFirst v_text v_layer g4 v_readLayer v_readCabman v_page v_isKept) := hD
        refine lv_iinc (v := x1 + 1) (lv' := [(1, .int (x1 + 1)), (0, .ref a_p0)]) hx hb d_PM_hall_76 hl (k := 1) rfl (rfl) (by decide) rfl (fun ls hl => ?_)
        refine lv_goto (tgt := 53) hx hb d_PM_hall_79 (by decide) ?_
        exact K_53 (x1 + 1) v_thrown v_place v_cabmen v_readCabmen v_acts v_layer g4 v_readLayer v_readCabman v_page v_isKept _ _ _ hP hD hS (lv_sub hl [1, 0] rfl) hf
  have B_27 : ∀  (n : Nat) (x1 : Int32) (v_thrown : Int32) (v_place : Int32) (v_cabmen : Int32) (v_readCabmen : Int32) (v_acts : Int32) (v_layer : Nat → Int32) (v_cabman : Nat → Int32) (v_readLayer : Nat → Int32) (v_readCabman : Nat → Int32) (v_page : Nat → Int32) (v_isKept : Nat → Int32) (H : Heap) (locs : List Loc) (ls : Array Slot), va_P D classes (cs_PM_hall cI cZ a_p0 a_text a_layer a_cabman a_readLayer a_readCabman a_page a_isKept z_trial z_book z_kept z_seenCabman z_seenFinger z_seenOff z_seenCame z_value z_shows v_thrown v_textSize v_place v_cabmen v_readCabmen v_acts v_seen v_seed v_bestCleaning v_bestLayers v_bestMany v_underMany v_underLeast v_restMany v_restFirst v_text v_layer v_cabman v_readLayer v_readCabman v_page v_isKept) H → va_D A (cs_PM_hall cI cZ a_p0 a_text a_layer a_cabman a_readLayer a_readCabman a_page a_isKept z_trial z_book z_kept z_seenCabman z_seenFinger z_seenOff z_seenCame z_value z_shows v_thrown v_textSize v_place v_cabmen v_readCabmen v_acts v_seen v_seed v_bestCleaning v_bestLayers v_bestMany v_underMany v_underLeast v_restMany v_restFirst v_text v_layer v_cabman v_readLayer v_readCabman v_page v_isKept) → va_S A s.heap H locs → lv_has ls 2 [(0, .ref a_p0), (1, .int x1)] → f_PM_hall_27  v_textSize v_text n x1 v_thrown v_place v_cabmen v_readCabmen v_acts v_layer v_cabman v_readLayer v_readCabman v_page v_isKept = some res → W p l e (rm_ 4 (40 * 4)) s m args below meth c H locs 0 0 Q (F0 m 27 ls []) := by
    intro  n
    induction n with
    | zero => intro x1 v_thrown v_place v_cabmen v_readCabmen v_acts v_layer v_cabman v_readLayer v_readCabman v_page v_isKept H locs ls hP hD hS hl hf; exact nomatch hf
    | succ n ih =>
      intro x1 v_thrown v_place v_cabmen v_readCabmen v_acts v_layer v_cabman v_readLayer v_readCabman v_page v_isKept H locs ls hP hD hS hl hf
      have hf : f_PM_hall_27_b  (f_PM_hall_27  v_textSize v_text n) v_textSize v_text x1 v_thrown v_place v_cabmen v_readCabmen v_acts v_layer v_cabman v_readLayer v_readCabman v_page v_isKept = some res := hf
      generalize f_PM_hall_27  v_textSize v_text n = back_27 at ih hf
      have K_27 := ih
      unfold f_PM_hall_27_b at hf
      refine lv_iload_n hx hb d_PM_hall_27 rfl (lv_at hl 1 rfl) ?_
      refine lv_bipush (v := 12) hx hb d_PM_hall_28 (by decide) ?_
      refine lv_icmp_ge (tgt := 51) hx hb d_PM_hall_30 (by decide) (fun c1 => ?_) (fun c1 => ?_)
      · have hf := o_pos c1 hf
        refine lv_iconst (v := 0) hx hb d_PM_hall_51 (by decide) ?_
        refine lv_istore_n (lv' := [(1, .int 0), (0, .ref a_p0)]) hx hb d_PM_hall_52 rfl hl (by decide) rfl (fun ls hl => ?_)
        exact B_53 300 0 v_thrown v_place v_cabmen v_readCabmen v_acts v_layer v_cabman v_readLayer v_readCabman v_page v_isKept _ _ _ hP hD hS (lv_sub hl [1, 0] rfl) hf
      · have hf := o_neg c1 hf
        refine lv_aload_n hx hb d_PM_hall_33 rfl (lv_at hl 0 rfl) ?_
        refine gf_PM_13 hC hP 0 rfl rfl d_PM_hall_34 ?_
        refine lv_iload_n hx hb d_PM_hall_37 rfl (lv_at hl 1 rfl) ?_
        refine lv_aload_n hx hb d_PM_hall_38 rfl (lv_at hl 0 rfl) ?_
        refine gf_PM_19 hC hP 0 rfl rfl d_PM_hall_39 ?_
        refine lv_iload_n hx hb d_PM_hall_42 rfl (lv_at hl 1 rfl) ?_
        obtain ⟨v2, h3, hf⟩ := o_bind hf
        refine r_iald hC hP 4 rfl h3 d_PM_hall_43 ?_
        obtain ⟨g4, h5, hf⟩ := o_bind hf
        refine r_iast hC hP hD hS 2 rfl h5 d_PM_hall_44 (fun H locs hP hD hS => ?_)
        have hP : va_P D classes (cs_PM_hall cI cZ a_p0 a_text a_layer a_cabman a_readLayer a_readCabman a_page a_isKept z_trial z_book z_kept z_seenCabman z_seenFinger z_seenOff z_seenCame z_value z_shows v_thrown v_textSize v_place v_cabmen v_readCabmen v_acts v_seen v_seed v_bestCleaning v_bestLayers v_bestMany v_underMany v_underLeast v_restMany v_restFirst v_text g4 v_cabman v_readLayer v_readCabman v_page v_isKept) H := hP
        have hD : va_D A (cs_PM_hall cI cZ a_p0 a_text a_layer a_cabman a_readLayer a_readCabman a_page a_isKept z_trial z_book z_kept z_seenCabman z_seenFinger z_seenOff z_seenCame z_value z_shows v_thrown v_textSize v_place v_cabmen v_readCabmen v_acts v_seen v_seed v_bestCleaning v_bestLayers v_bestMany v_underMany v_underLeast v_restMany v_restFirst v_text g4 v_cabman v_readLayer v_readCabman v_page v_isKept) := hD
        refine lv_iinc (v := x1 + 1) (lv' := [(1, .int (x1 + 1)), (0, .ref a_p0)]) hx hb d_PM_hall_45 hl (k := 1) rfl (rfl) (by decide) rfl (fun ls hl => ?_)
        refine lv_goto (tgt := 27) hx hb d_PM_hall_48 (by decide) ?_
        exact K_27 (x1 + 1) v_thrown v_place v_cabmen v_readCabmen v_acts g4 v_cabman v_readLayer v_readCabman v_page v_isKept _ _ _ hP hD hS (lv_sub hl [1, 0] rfl) hf
  unfold f_PM_hall at hf
  have E : ∀ (H : Heap) (locs : List Loc), va_P D classes (cs_PM_hall cI cZ a_p0 a_text a_layer a_cabman a_readLayer a_readCabman a_page a_isKept z_trial z_book z_kept z_seenCabman z_seenFinger z_seenOff z_seenCame z_value z_shows v_thrown v_textSize v_place v_cabmen v_readCabmen v_acts v_seen v_seed v_bestCleaning v_bestLayers v_bestMany v_underMany v_underLeast v_restMany v_restFirst v_text v_layer v_cabman v_readLayer v_readCabman v_page v_isKept) H → va_S A s.heap H locs → W p l e (rm_ 4 (40 * 4)) s m args below meth c H locs 0 0 Q (F0 m 0 ls []) := by
    intro H locs hP hS
    refine lv_aload_n hx hb d_PM_hall_0 rfl (lv_at hl 0 rfl) ?_
    refine lv_iconst (v := 0) hx hb d_PM_hall_1 (by decide) ?_
    refine pf_PM_59 hC hP hD hS 0 rfl (Nat.le_of_ble_eq_true rfl) d_PM_hall_2 (fun H locs hP hD hS => ?_)
    have hP : va_P D classes (cs_PM_hall cI cZ a_p0 a_text a_layer a_cabman a_readLayer a_readCabman a_page a_isKept z_trial z_book z_kept z_seenCabman z_seenFinger z_seenOff z_seenCame z_value z_shows 0 v_textSize v_place v_cabmen v_readCabmen v_acts v_seen v_seed v_bestCleaning v_bestLayers v_bestMany v_underMany v_underLeast v_restMany v_restFirst v_text v_layer v_cabman v_readLayer v_readCabman v_page v_isKept) H := hP
    have hD : va_D A (cs_PM_hall cI cZ a_p0 a_text a_layer a_cabman a_readLayer a_readCabman a_page a_isKept z_trial z_book z_kept z_seenCabman z_seenFinger z_seenOff z_seenCame z_value z_shows 0 v_textSize v_place v_cabmen v_readCabmen v_acts v_seen v_seed v_bestCleaning v_bestLayers v_bestMany v_underMany v_underLeast v_restMany v_restFirst v_text v_layer v_cabman v_readLayer v_readCabman v_page v_isKept) := hD
    refine lv_aload_n hx hb d_PM_hall_5 rfl (lv_at hl 0 rfl) ?_
    obtain ⟨r1, h2, hf⟩ := o_bind hf
    refine cVi (rest := []) (wr := [(a_layer, .inl (cI, 12, .inl v_layer)), (a_cabman, .inl (cI, 30, .inl v_cabman)), (a_page, .inl (cI, 16, .inl v_page)), (a_isKept, .inl (cZ, 2, .inl v_isKept))]) (wn := (cs_PM_hall cI cZ a_p0 a_text a_layer a_cabman a_readLayer a_readCabman a_page a_isKept z_trial z_book z_kept z_seenCabman z_seenFinger z_seenOff z_seenCame z_value z_shows 0 v_textSize r1.2.1 v_cabmen r1.2.2.1 v_acts v_seen v_seed v_bestCleaning v_bestLayers v_bestMany v_underMany v_underLeast v_restMany v_restFirst v_text v_layer v_cabman r1.2.2.2.1 r1.2.2.2.2 v_page v_isKept)) (c_PM_readHall l D cI cZ a_p0 a_text a_readLayer a_readCabman a_layer a_cabman a_page z_trial z_book z_kept a_isKept z_seenCabman z_seenFinger z_seenOff z_seenCame z_value z_shows 0 v_textSize v_place v_cabmen v_readCabmen v_acts v_seen v_seed v_bestCleaning v_bestLayers v_bestMany v_underMany v_underLeast v_restMany v_restFirst v_text v_readLayer v_readCabman r1 h2) hC hA hP hD hS hl.1 cw_PM_94 0 rfl rfl rfl ⟨Nat.le_of_ble_eq_true rfl, Nat.le_of_ble_eq_true rfl⟩ rfl rfl (Nat.le_of_ble_eq_true rfl) d_PM_hall_6 ⟨Nat.zero_le _, Nat.zero_le _⟩ [0, 1, 4, 5] [2, 3, 6, 7] [4, 5, 0, 1, 6, 7, 2, 3] (by decide) (Cut_mk rfl rfl (by decide) (by decide) (by decide) rfl) (fun H locs hP hD hS => ?_)
    refine lv_bipush (v := (-9)) hx hb d_PM_hall_9 (by decide) ?_
    refine lv_icmp_eq (tgt := 17) hx hb d_PM_hall_11 (by decide) (fun c3 => ?_) (fun c3 => ?_)
    · have hf := o_pos c3 hf
      refine lv_aload_n hx hb d_PM_hall_17 rfl (lv_at hl 0 rfl) ?_
      refine lv_aload_n hx hb d_PM_hall_18 rfl (lv_at hl 0 rfl) ?_
      refine gf_PM_84 hC hP 0 rfl rfl d_PM_hall_19 ?_
      refine pf_PM_63 hC hP hD hS 0 rfl (Nat.le_of_ble_eq_true rfl) d_PM_hall_22 (fun H locs hP hD hS => ?_)
      have hP : va_P D classes (cs_PM_hall cI cZ a_p0 a_text a_layer a_cabman a_readLayer a_readCabman a_page a_isKept z_trial z_book z_kept z_seenCabman z_seenFinger z_seenOff z_seenCame z_value z_shows 0 v_textSize r1.2.1 r1.2.2.1 r1.2.2.1 v_acts v_seen v_seed v_bestCleaning v_bestLayers v_bestMany v_underMany v_underLeast v_restMany v_restFirst v_text v_layer v_cabman r1.2.2.2.1 r1.2.2.2.2 v_page v_isKept) H := hP
      have hD : va_D A (cs_PM_hall cI cZ a_p0 a_text a_layer a_cabman a_readLayer a_readCabman a_page a_isKept z_trial z_book z_kept z_seenCabman z_seenFinger z_seenOff z_seenCame z_value z_shows 0 v_textSize r1.2.1 r1.2.2.1 r1.2.2.1 v_acts v_seen v_seed v_bestCleaning v_bestLayers v_bestMany v_underMany v_underLeast v_restMany v_restFirst v_text v_layer v_cabman r1.2.2.2.1 r1.2.2.2.2 v_page v_isKept) := hD
      refine lv_iconst (v := 0) hx hb d_PM_hall_25 (by decide) ?_
      refine lv_istore_n (lv' := [(1, .int 0), (0, .ref a_p0)]) hx hb d_PM_hall_26 rfl hl (by decide) rfl (fun ls hl => ?_)
      exact B_27 300 0 0 r1.2.1 r1.2.2.1 r1.2.2.1 v_acts v_layer v_cabman r1.2.2.2.1 r1.2.2.2.2 v_page v_isKept _ _ _ hP hD hS (lv_sub hl [1, 0] rfl) hf
    · have hf := o_neg c3 hf
      refine lv_bipush (v := (-3)) hx hb d_PM_hall_14 (by decide) ?_
      have hr := Option.some.inj hf
      exact RET _ _ _ _ _ _ rfl (congrArg (fun r : Int32 × Int32 × Int32 × Int32 × Int32 × Int32 × (Nat → Int32) × (Nat → Int32) × (Nat → Int32) × (Nat → Int32) × (Nat → Int32) × (Nat → Int32) => r.1) hr) (congrArg (fun r : Int32 × Int32 × Int32 × Int32 × Int32 × Int32 × (Nat → Int32) × (Nat → Int32) × (Nat → Int32) × (Nat → Int32) × (Nat → Int32) × (Nat → Int32) => (cs_PM_hall cI cZ a_p0 a_text a_layer a_cabman a_readLayer a_readCabman a_page a_isKept z_trial z_book z_kept z_seenCabman z_seenFinger z_seenOff z_seenCame z_value z_shows r.2.1 v_textSize r.2.2.1 r.2.2.2.1 r.2.2.2.2.1 r.2.2.2.2.2.1 v_seen v_seed v_bestCleaning v_bestLayers v_bestMany v_underMany v_underLeast v_restMany v_restFirst v_text r.2.2.2.2.2.2.1 r.2.2.2.2.2.2.2.1 r.2.2.2.2.2.2.2.2.1 r.2.2.2.2.2.2.2.2.2.1 r.2.2.2.2.2.2.2.2.2.2.1 r.2.2.2.2.2.2.2.2.2.2.2)) hr) hP hD hS d_PM_hall_16
  exact E _ _ hP hS
set_option maxHeartbeats 4000000 in
set_option maxRecDepth 100000 in
theorem c_PM_layShown (l : Launch) (D : va_G) (cI cZ : ClassId) (a_p0 a_layer a_shows a_p1 z_text z_cabman z_readLayer z_readCabman z_page z_trial z_book z_kept z_isKept z_seenCabman z_seenFinger z_seenOff z_seenCame z_value : Nat) (v_thrown : Int32) (v_textSize : Int32) (v_place : Int32) (v_cabmen : Int32) (v_readCabmen : Int32) (v_acts : Int32) (v_seen : Int32) (v_seed : Int64) (v_bestCleaning : Int32) (v_bestLayers : Int32) (v_bestMany : Int32) (v_underMany : Int32) (v_underLeast : Int32) (v_restMany : Int32) (v_restFirst : Int32) (v_layer : Nat → Int32) (v_shows : Nat → Int32) (v_p1 : Nat → Int32) (res : (Nat → Int32)) (hf : f_PM_layShown v_layer v_p1 v_shows = some res) : CtV l y_PM_layShown b_PM_layShown 3 none 0 D cI cZ [.ref a_p0, .ref a_p1] (cs_PM_layShown cI cZ a_p0 a_layer a_shows a_p1 z_text z_cabman z_readLayer z_readCabman z_page z_trial z_book z_kept z_isKept z_seenCabman z_seenFinger z_seenOff z_seenCame z_value v_thrown v_textSize v_place v_cabmen v_readCabmen v_acts v_seen v_seed v_bestCleaning v_bestLayers v_bestMany v_underMany v_underLeast v_restMany v_restFirst v_layer v_shows v_p1) (cs_PM_layShown cI cZ a_p0 a_layer a_shows a_p1 z_text z_cabman z_readLayer z_readCabman z_page z_trial z_book z_kept z_isKept z_seenCabman z_seenFinger z_seenOff z_seenCame z_value v_thrown v_textSize v_place v_cabmen v_readCabmen v_acts v_seen v_seed v_bestCleaning v_bestLayers v_bestMany v_underMany v_underLeast v_restMany v_restFirst v_layer res v_p1) := by
  refine CtV_mk (by decide) (Nat.le_of_ble_eq_true rfl) ?_
  intro p e s m args below meth c A Q hC hA hP hD RET ls hl
  have hC : Cx p s m args meth c b_PM_layShown 3 R_PM D cI cZ := hC
  have hl : lv_has ls 3 [(0, .ref a_p0), (1, .ref a_p1)] := hl
  obtain ⟨hx, hb, hml, hown, hts, hlk, hKK⟩ := id hC
  have hS : va_S A s.heap s.heap [] := va_S.rf
  have B_2 : ∀  (n : Nat) (x2 : Int32) (v_shows : Nat → Int32) (H : Heap) (locs : List Loc) (ls : Array Slot), va_P D classes (cs_PM_layShown cI cZ a_p0 a_layer a_shows a_p1 z_text z_cabman z_readLayer z_readCabman z_page z_trial z_book z_kept z_isKept z_seenCabman z_seenFinger z_seenOff z_seenCame z_value v_thrown v_textSize v_place v_cabmen v_readCabmen v_acts v_seen v_seed v_bestCleaning v_bestLayers v_bestMany v_underMany v_underLeast v_restMany v_restFirst v_layer v_shows v_p1) H → va_D A (cs_PM_layShown cI cZ a_p0 a_layer a_shows a_p1 z_text z_cabman z_readLayer z_readCabman z_page z_trial z_book z_kept z_isKept z_seenCabman z_seenFinger z_seenOff z_seenCame z_value v_thrown v_textSize v_place v_cabmen v_readCabmen v_acts v_seen v_seed v_bestCleaning v_bestLayers v_bestMany v_underMany v_underLeast v_restMany v_restFirst v_layer v_shows v_p1) → va_S A s.heap H locs → lv_has ls 3 [(0, .ref a_p0), (1, .ref a_p1), (2, .int x2)] → f_PM_layShown_2  v_layer v_p1 n x2 v_shows = some res → W p l e (rm_ 0 (40 * 0)) s m args below meth c H locs 0 0 Q (F0 m 2 ls []) := by
    intro  n
    induction n with
    | zero => intro x2 v_shows H locs ls hP hD hS hl hf; exact nomatch hf
    | succ n ih =>
      intro x2 v_shows H locs ls hP hD hS hl hf
      have hf : f_PM_layShown_2_b  (f_PM_layShown_2  v_layer v_p1 n) v_layer v_p1 x2 v_shows = some res := hf
      generalize f_PM_layShown_2  v_layer v_p1 n = back_2 at ih hf
      have K_2 := ih
      unfold f_PM_layShown_2_b at hf
      refine lv_iload_n hx hb d_PM_layShown_2 rfl (lv_at hl 2 rfl) ?_
      refine lv_iconst (v := 4) hx hb d_PM_layShown_3 (by decide) ?_
      refine lv_icmp_ge (tgt := 33) hx hb d_PM_layShown_4 (by decide) (fun c1 => ?_) (fun c1 => ?_)
      · have hf := o_pos c1 hf
        have hr := Option.some.inj hf
        exact RET _ _ _ _ _ (congrArg (fun r : (Nat → Int32) => (cs_PM_layShown cI cZ a_p0 a_layer a_shows a_p1 z_text z_cabman z_readLayer z_readCabman z_page z_trial z_book z_kept z_isKept z_seenCabman z_seenFinger z_seenOff z_seenCame z_value v_thrown v_textSize v_place v_cabmen v_readCabmen v_acts v_seen v_seed v_bestCleaning v_bestLayers v_bestMany v_underMany v_underLeast v_restMany v_restFirst v_layer r v_p1)) hr) hP hD hS d_PM_layShown_33
      · have hf := o_neg c1 hf
        refine lv_aload_n hx hb d_PM_layShown_7 rfl (lv_at hl 0 rfl) ?_
        refine gf_PM_56 hC hP 0 rfl rfl d_PM_layShown_8 ?_
        refine lv_iload_n hx hb d_PM_layShown_11 rfl (lv_at hl 2 rfl) ?_
        refine lv_aload_n hx hb d_PM_layShown_12 rfl (lv_at hl 0 rfl) ?_
        refine gf_PM_13 hC hP 0 rfl rfl d_PM_layShown_13 ?_
        refine lv_iconst (v := 3) hx hb d_PM_layShown_16 (by decide) ?_
        refine lv_iload_n hx hb d_PM_layShown_17 rfl (lv_at hl 2 rfl) ?_
        refine lv_imul hx hb d_PM_layShown_18 ?_
        refine lv_aload_n hx hb d_PM_layShown_19 rfl (lv_at hl 1 rfl) ?_
        refine lv_iconst (v := 0) hx hb d_PM_layShown_20 (by decide) ?_
        refine lv_iload_n hx hb d_PM_layShown_21 rfl (lv_at hl 2 rfl) ?_
        refine lv_iadd hx hb d_PM_layShown_22 ?_
        obtain ⟨v2, h3, hf⟩ := o_bind hf
        refine r_iald hC hP 3 rfl h3 d_PM_layShown_23 ?_
        refine lv_iadd hx hb d_PM_layShown_24 ?_
        obtain ⟨v4, h5, hf⟩ := o_bind hf
        refine r_iald hC hP 1 rfl h5 d_PM_layShown_25 ?_
        obtain ⟨g6, h7, hf⟩ := o_bind hf
        refine r_iast hC hP hD hS 2 rfl h7 d_PM_layShown_26 (fun H locs hP hD hS => ?_)
        have hP : va_P D classes (cs_PM_layShown cI cZ a_p0 a_layer a_shows a_p1 z_text z_cabman z_readLayer z_readCabman z_page z_trial z_book z_kept z_isKept z_seenCabman z_seenFinger z_seenOff z_seenCame z_value v_thrown v_textSize v_place v_cabmen v_readCabmen v_acts v_seen v_seed v_bestCleaning v_bestLayers v_bestMany v_underMany v_underLeast v_restMany v_restFirst v_layer g6 v_p1) H := hP
        have hD : va_D A (cs_PM_layShown cI cZ a_p0 a_layer a_shows a_p1 z_text z_cabman z_readLayer z_readCabman z_page z_trial z_book z_kept z_isKept z_seenCabman z_seenFinger z_seenOff z_seenCame z_value v_thrown v_textSize v_place v_cabmen v_readCabmen v_acts v_seen v_seed v_bestCleaning v_bestLayers v_bestMany v_underMany v_underLeast v_restMany v_restFirst v_layer g6 v_p1) := hD
        refine lv_iinc (v := x2 + 1) (lv' := [(2, .int (x2 + 1)), (0, .ref a_p0), (1, .ref a_p1)]) hx hb d_PM_layShown_27 hl (k := 2) rfl (rfl) (by decide) rfl (fun ls hl => ?_)
        refine lv_goto (tgt := 2) hx hb d_PM_layShown_30 (by decide) ?_
        exact K_2 (x2 + 1) g6 _ _ _ hP hD hS (lv_sub hl [1, 2, 0] rfl) hf
  unfold f_PM_layShown at hf
  have E : ∀ (H : Heap) (locs : List Loc), va_P D classes (cs_PM_layShown cI cZ a_p0 a_layer a_shows a_p1 z_text z_cabman z_readLayer z_readCabman z_page z_trial z_book z_kept z_isKept z_seenCabman z_seenFinger z_seenOff z_seenCame z_value v_thrown v_textSize v_place v_cabmen v_readCabmen v_acts v_seen v_seed v_bestCleaning v_bestLayers v_bestMany v_underMany v_underLeast v_restMany v_restFirst v_layer v_shows v_p1) H → va_S A s.heap H locs → W p l e (rm_ 0 (40 * 0)) s m args below meth c H locs 0 0 Q (F0 m 0 ls []) := by
    intro H locs hP hS
    refine lv_iconst (v := 0) hx hb d_PM_layShown_0 (by decide) ?_
    refine lv_istore_n (lv' := [(2, .int 0), (0, .ref a_p0), (1, .ref a_p1)]) hx hb d_PM_layShown_1 rfl hl (by decide) rfl (fun ls hl => ?_)
    exact B_2 300 0 v_shows _ _ _ hP hD hS (lv_sub hl [1, 2, 0] rfl) hf
  exact E _ _ hP hS
set_option maxHeartbeats 4000000 in
set_option maxRecDepth 100000 in
theorem c_PM_isCalled (l : Launch) (D : va_G) (cI cZ : ClassId) (a_p0 a_cabman a_shows z_text z_layer z_readLayer z_readCabman z_page z_trial z_book z_kept z_isKept z_seenCabman z_seenFinger z_seenOff z_seenCame z_value : Nat) (i1 : Int32) (i2 : Int32) (v_thrown : Int32) (v_textSize : Int32) (v_place : Int32) (v_cabmen : Int32) (v_readCabmen : Int32) (v_acts : Int32) (v_seen : Int32) (v_seed : Int64) (v_bestCleaning : Int32) (v_bestLayers : Int32) (v_bestMany : Int32) (v_underMany : Int32) (v_underLeast : Int32) (v_restMany : Int32) (v_restFirst : Int32) (v_cabman : Nat → Int32) (v_shows : Nat → Int32) (res : Int32) (hf : f_PM_isCalled i1 i2 v_cabman v_shows = some res) : CtI l y_PM_isCalled b_PM_isCalled 7 (some .boolean) 1 D cI cZ [.ref a_p0, .int i1, .int i2] (cs_PM_isCalled cI cZ a_p0 a_cabman a_shows z_text z_layer z_readLayer z_readCabman z_page z_trial z_book z_kept z_isKept z_seenCabman z_seenFinger z_seenOff z_seenCame z_value v_thrown v_textSize v_place v_cabmen v_readCabmen v_acts v_seen v_seed v_bestCleaning v_bestLayers v_bestMany v_underMany v_underLeast v_restMany v_restFirst v_cabman v_shows) res (cs_PM_isCalled cI cZ a_p0 a_cabman a_shows z_text z_layer z_readLayer z_readCabman z_page z_trial z_book z_kept z_isKept z_seenCabman z_seenFinger z_seenOff z_seenCame z_value v_thrown v_textSize v_place v_cabmen v_readCabmen v_acts v_seen v_seed v_bestCleaning v_bestLayers v_bestMany v_underMany v_underLeast v_restMany v_restFirst v_cabman v_shows) := by
  refine CtI_mk (by decide) (Nat.le_of_ble_eq_true rfl) ?_
  intro p e s m args below meth c A Q hC hA hP hD RET ls hl
  have hC : Cx p s m args meth c b_PM_isCalled 7 R_PM D cI cZ := hC
  have hl : lv_has ls 7 [(0, .ref a_p0), (1, .int i1), (2, .int i2)] := hl
  obtain ⟨hx, hb, hml, hown, hts, hlk, hKK⟩ := id hC
  have hS : va_S A s.heap s.heap [] := va_S.rf
  have B_152 : ∀  (w0 : Int32) (H : Heap) (locs : List Loc) (ls : Array Slot), va_P D classes (cs_PM_isCalled cI cZ a_p0 a_cabman a_shows z_text z_layer z_readLayer z_readCabman z_page z_trial z_book z_kept z_isKept z_seenCabman z_seenFinger z_seenOff z_seenCame z_value v_thrown v_textSize v_place v_cabmen v_readCabmen v_acts v_seen v_seed v_bestCleaning v_bestLayers v_bestMany v_underMany v_underLeast v_restMany v_restFirst v_cabman v_shows) H → va_D A (cs_PM_isCalled cI cZ a_p0 a_cabman a_shows z_text z_layer z_readLayer z_readCabman z_page z_trial z_book z_kept z_isKept z_seenCabman z_seenFinger z_seenOff z_seenCame z_value v_thrown v_textSize v_place v_cabmen v_readCabmen v_acts v_seen v_seed v_bestCleaning v_bestLayers v_bestMany v_underMany v_underLeast v_restMany v_restFirst v_cabman v_shows) → va_S A s.heap H locs → lv_has ls 7 [] → f_PM_isCalled_152  v_cabman v_shows w0 = some res → W p l e (rm_ 1 (40 * 1)) s m args below meth c H locs 0 0 Q (F0 m 152 ls [.int w0]) := by
    intro  w0 H locs ls hP hD hS hl hf
    unfold f_PM_isCalled_152 at hf
    obtain ⟨h1, hf⟩ := o_ite hf
    have hr := Option.some.inj hf
    exact RET _ _ _ _ _ _ (narB h1) (congrArg (fun r : Int32 => r) hr) rfl hP hD hS d_PM_isCalled_152
  have B_151 : ∀   (H : Heap) (locs : List Loc) (ls : Array Slot), va_P D classes (cs_PM_isCalled cI cZ a_p0 a_cabman a_shows z_text z_layer z_readLayer z_readCabman z_page z_trial z_book z_kept z_isKept z_seenCabman z_seenFinger z_seenOff z_seenCame z_value v_thrown v_textSize v_place v_cabmen v_readCabmen v_acts v_seen v_seed v_bestCleaning v_bestLayers v_bestMany v_underMany v_underLeast v_restMany v_restFirst v_cabman v_shows) H → va_D A (cs_PM_isCalled cI cZ a_p0 a_cabman a_shows z_text z_layer z_readLayer z_readCabman z_page z_trial z_book z_kept z_isKept z_seenCabman z_seenFinger z_seenOff z_seenCame z_value v_thrown v_textSize v_place v_cabmen v_readCabmen v_acts v_seen v_seed v_bestCleaning v_bestLayers v_bestMany v_underMany v_underLeast v_restMany v_restFirst v_cabman v_shows) → va_S A s.heap H locs → lv_has ls 7 [] → f_PM_isCalled_151  v_cabman v_shows  = some res → W p l e (rm_ 1 (40 * 1)) s m args below meth c H locs 0 0 Q (F0 m 151 ls []) := by
    intro   H locs ls hP hD hS hl hf
    unfold f_PM_isCalled_151 at hf
    refine lv_iconst (v := 0) hx hb d_PM_isCalled_151 (by decide) ?_
    exact B_152 0 _ _ _ hP hD hS (lv_sub hl [] rfl) hf
  have B_147 : ∀   (H : Heap) (locs : List Loc) (ls : Array Slot), va_P D classes (cs_PM_isCalled cI cZ a_p0 a_cabman a_shows z_text z_layer z_readLayer z_readCabman z_page z_trial z_book z_kept z_isKept z_seenCabman z_seenFinger z_seenOff z_seenCame z_value v_thrown v_textSize v_place v_cabmen v_readCabmen v_acts v_seen v_seed v_bestCleaning v_bestLayers v_bestMany v_underMany v_underLeast v_restMany v_restFirst v_cabman v_shows) H → va_D A (cs_PM_isCalled cI cZ a_p0 a_cabman a_shows z_text z_layer z_readLayer z_readCabman z_page z_trial z_book z_kept z_isKept z_seenCabman z_seenFinger z_seenOff z_seenCame z_value v_thrown v_textSize v_place v_cabmen v_readCabmen v_acts v_seen v_seed v_bestCleaning v_bestLayers v_bestMany v_underMany v_underLeast v_restMany v_restFirst v_cabman v_shows) → va_S A s.heap H locs → lv_has ls 7 [] → f_PM_isCalled_147  v_cabman v_shows  = some res → W p l e (rm_ 1 (40 * 1)) s m args below meth c H locs 0 0 Q (F0 m 147 ls []) := by
    intro   H locs ls hP hD hS hl hf
    unfold f_PM_isCalled_147 at hf
    refine lv_iconst (v := 1) hx hb d_PM_isCalled_147 (by decide) ?_
    refine lv_goto (tgt := 152) hx hb d_PM_isCalled_148 (by decide) ?_
    exact B_152 1 _ _ _ hP hD hS (lv_sub hl [] rfl) hf
  have B_122 : ∀  (w0 : Int32) (H : Heap) (locs : List Loc) (ls : Array Slot), va_P D classes (cs_PM_isCalled cI cZ a_p0 a_cabman a_shows z_text z_layer z_readLayer z_readCabman z_page z_trial z_book z_kept z_isKept z_seenCabman z_seenFinger z_seenOff z_seenCame z_value v_thrown v_textSize v_place v_cabmen v_readCabmen v_acts v_seen v_seed v_bestCleaning v_bestLayers v_bestMany v_underMany v_underLeast v_restMany v_restFirst v_cabman v_shows) H → va_D A (cs_PM_isCalled cI cZ a_p0 a_cabman a_shows z_text z_layer z_readLayer z_readCabman z_page z_trial z_book z_kept z_isKept z_seenCabman z_seenFinger z_seenOff z_seenCame z_value v_thrown v_textSize v_place v_cabmen v_readCabmen v_acts v_seen v_seed v_bestCleaning v_bestLayers v_bestMany v_underMany v_underLeast v_restMany v_restFirst v_cabman v_shows) → va_S A s.heap H locs → lv_has ls 7 [] → f_PM_isCalled_122  v_cabman v_shows w0 = some res → W p l e (rm_ 1 (40 * 1)) s m args below meth c H locs 0 0 Q (F0 m 122 ls [.int w0]) := by
    intro  w0 H locs ls hP hD hS hl hf
    unfold f_PM_isCalled_122 at hf
    obtain ⟨h1, hf⟩ := o_ite hf
    have hr := Option.some.inj hf
    exact RET _ _ _ _ _ _ (narB h1) (congrArg (fun r : Int32 => r) hr) rfl hP hD hS d_PM_isCalled_122
  have B_89 : ∀ (back_8 : Int32 → Int32 → Int32 → Int32 → Int32 → Option Int32) (K_8 : ∀ (x1 : Int32) (x2 : Int32) (x3 : Int32) (x4 : Int32) (x5 : Int32) (H : Heap) (locs : List Loc) (ls : Array Slot), va_P D classes (cs_PM_isCalled cI cZ a_p0 a_cabman a_shows z_text z_layer z_readLayer z_readCabman z_page z_trial z_book z_kept z_isKept z_seenCabman z_seenFinger z_seenOff z_seenCame z_value v_thrown v_textSize v_place v_cabmen v_readCabmen v_acts v_seen v_seed v_bestCleaning v_bestLayers v_bestMany v_underMany v_underLeast v_restMany v_restFirst v_cabman v_shows) H → va_D A (cs_PM_isCalled cI cZ a_p0 a_cabman a_shows z_text z_layer z_readLayer z_readCabman z_page z_trial z_book z_kept z_isKept z_seenCabman z_seenFinger z_seenOff z_seenCame z_value v_thrown v_textSize v_place v_cabmen v_readCabmen v_acts v_seen v_seed v_bestCleaning v_bestLayers v_bestMany v_underMany v_underLeast v_restMany v_restFirst v_cabman v_shows) → va_S A s.heap H locs → lv_has ls 7 [(0, .ref a_p0), (1, .int x1), (2, .int x2), (3, .int x3), (4, .int x4), (5, .int x5)] → back_8 x1 x2 x3 x4 x5 = some res → W p l e (rm_ 1 (40 * 1)) s m args below meth c H locs 0 0 Q (F0 m 8 ls [])) (x1 : Int32) (x2 : Int32) (x3 : Int32) (x5 : Int32) (w0 : Int32) (H : Heap) (locs : List Loc) (ls : Array Slot), va_P D classes (cs_PM_isCalled cI cZ a_p0 a_cabman a_shows z_text z_layer z_readLayer z_readCabman z_page z_trial z_book z_kept z_isKept z_seenCabman z_seenFinger z_seenOff z_seenCame z_value v_thrown v_textSize v_place v_cabmen v_readCabmen v_acts v_seen v_seed v_bestCleaning v_bestLayers v_bestMany v_underMany v_underLeast v_restMany v_restFirst v_cabman v_shows) H → va_D A (cs_PM_isCalled cI cZ a_p0 a_cabman a_shows z_text z_layer z_readLayer z_readCabman z_page z_trial z_book z_kept z_isKept z_seenCabman z_seenFinger z_seenOff z_seenCame z_value v_thrown v_textSize v_place v_cabmen v_readCabmen v_acts v_seen v_seed v_bestCleaning v_bestLayers v_bestMany v_underMany v_underLeast v_restMany v_restFirst v_cabman v_shows) → va_S A s.heap H locs → lv_has ls 7 [(0, .ref a_p0), (1, .int x1), (2, .int x2), (3, .int x3), (5, .int x5)] → f_PM_isCalled_89 back_8 v_cabman v_shows x1 x2 x3 x5 w0 = some res → W p l e (rm_ 1 (40 * 1)) s m args below meth c H locs 0 0 Q (F0 m 89 ls [.int w0]) := by
    intro back_8 K_8 x1 x2 x3 x5 w0 H locs ls hP hD hS hl hf
    unfold f_PM_isCalled_89 at hf
    refine lv_istore (lv' := [(4, .int w0), (0, .ref a_p0), (1, .int x1), (2, .int x2), (3, .int x3), (5, .int x5)]) hx hb d_PM_isCalled_89 hl (by decide) rfl (fun ls hl => ?_)
    refine lv_iinc (v := x5 + 1) (lv' := [(5, .int (x5 + 1)), (4, .int w0), (0, .ref a_p0), (1, .int x1), (2, .int x2), (3, .int x3)]) hx hb d_PM_isCalled_91 hl (k := 5) rfl (rfl) (by decide) rfl (fun ls hl => ?_)
    refine lv_goto (tgt := 8) hx hb d_PM_isCalled_94 (by decide) ?_
    exact K_8 x1 x2 x3 w0 (x5 + 1) _ _ _ hP hD hS (lv_sub hl [2, 3, 4, 5, 1, 0] rfl) hf
  have B_84 : ∀ (back_8 : Int32 → Int32 → Int32 → Int32 → Int32 → Option Int32) (K_8 : ∀ (x1 : Int32) (x2 : Int32) (x3 : Int32) (x4 : Int32) (x5 : Int32) (H : Heap) (locs : List Loc) (ls : Array Slot), va_P D classes (cs_PM_isCalled cI cZ a_p0 a_cabman a_shows z_text z_layer z_readLayer z_readCabman z_page z_trial z_book z_kept z_isKept z_seenCabman z_seenFinger z_seenOff z_seenCame z_value v_thrown v_textSize v_place v_cabmen v_readCabmen v_acts v_seen v_seed v_bestCleaning v_bestLayers v_bestMany v_underMany v_underLeast v_restMany v_restFirst v_cabman v_shows) H → va_D A (cs_PM_isCalled cI cZ a_p0 a_cabman a_shows z_text z_layer z_readLayer z_readCabman z_page z_trial z_book z_kept z_isKept z_seenCabman z_seenFinger z_seenOff z_seenCame z_value v_thrown v_textSize v_place v_cabmen v_readCabmen v_acts v_seen v_seed v_bestCleaning v_bestLayers v_bestMany v_underMany v_underLeast v_restMany v_restFirst v_cabman v_shows) → va_S A s.heap H locs → lv_has ls 7 [(0, .ref a_p0), (1, .int x1), (2, .int x2), (3, .int x3), (4, .int x4), (5, .int x5)] → back_8 x1 x2 x3 x4 x5 = some res → W p l e (rm_ 1 (40 * 1)) s m args below meth c H locs 0 0 Q (F0 m 8 ls [])) (x1 : Int32) (x2 : Int32) (x3 : Int32) (x5 : Int32) (H : Heap) (locs : List Loc) (ls : Array Slot), va_P D classes (cs_PM_isCalled cI cZ a_p0 a_cabman a_shows z_text z_layer z_readLayer z_readCabman z_page z_trial z_book z_kept z_isKept z_seenCabman z_seenFinger z_seenOff z_seenCame z_value v_thrown v_textSize v_place v_cabmen v_readCabmen v_acts v_seen v_seed v_bestCleaning v_bestLayers v_bestMany v_underMany v_underLeast v_restMany v_restFirst v_cabman v_shows) H → va_D A (cs_PM_isCalled cI cZ a_p0 a_cabman a_shows z_text z_layer z_readLayer z_readCabman z_page z_trial z_book z_kept z_isKept z_seenCabman z_seenFinger z_seenOff z_seenCame z_value v_thrown v_textSize v_place v_cabmen v_readCabmen v_acts v_seen v_seed v_bestCleaning v_bestLayers v_bestMany v_underMany v_underLeast v_restMany v_restFirst v_cabman v_shows) → va_S A s.heap H locs → lv_has ls 7 [(0, .ref a_p0), (1, .int x1), (2, .int x2), (3, .int x3), (5, .int x5)] → f_PM_isCalled_84 back_8 v_cabman v_shows x1 x2 x3 x5 = some res → W p l e (rm_ 1 (40 * 1)) s m args below meth c H locs 0 0 Q (F0 m 84 ls []) := by
    intro back_8 K_8 x1 x2 x3 x5 H locs ls hP hD hS hl hf
    unfold f_PM_isCalled_84 at hf
    refine lv_iconst (v := 1) hx hb d_PM_isCalled_84 (by decide) ?_
    refine lv_goto (tgt := 89) hx hb d_PM_isCalled_85 (by decide) ?_
    exact B_89 back_8 K_8 x1 x2 x3 x5 1 _ _ _ hP hD hS (lv_sub hl [0, 1, 2, 3, 4] rfl) hf
  have B_66 : ∀ (back_8 : Int32 → Int32 → Int32 → Int32 → Int32 → Option Int32) (K_8 : ∀ (x1 : Int32) (x2 : Int32) (x3 : Int32) (x4 : Int32) (x5 : Int32) (H : Heap) (locs : List Loc) (ls : Array Slot), va_P D classes (cs_PM_isCalled cI cZ a_p0 a_cabman a_shows z_text z_layer z_readLayer z_readCabman z_page z_trial z_book z_kept z_isKept z_seenCabman z_seenFinger z_seenOff z_seenCame z_value v_thrown v_textSize v_place v_cabmen v_readCabmen v_acts v_seen v_seed v_bestCleaning v_bestLayers v_bestMany v_underMany v_underLeast v_restMany v_restFirst v_cabman v_shows) H → va_D A (cs_PM_isCalled cI cZ a_p0 a_cabman a_shows z_text z_layer z_readLayer z_readCabman z_page z_trial z_book z_kept z_isKept z_seenCabman z_seenFinger z_seenOff z_seenCame z_value v_thrown v_textSize v_place v_cabmen v_readCabmen v_acts v_seen v_seed v_bestCleaning v_bestLayers v_bestMany v_underMany v_underLeast v_restMany v_restFirst v_cabman v_shows) → va_S A s.heap H locs → lv_has ls 7 [(0, .ref a_p0), (1, .int x1), (2, .int x2), (3, .int x3), (4, .int x4), (5, .int x5)] → back_8 x1 x2 x3 x4 x5 = some res → W p l e (rm_ 1 (40 * 1)) s m args below meth c H locs 0 0 Q (F0 m 8 ls [])) (x1 : Int32) (x2 : Int32) (x4 : Int32) (x5 : Int32) (w0 : Int32) (w1 : Int32) (H : Heap) (locs : List Loc) (ls : Array Slot), va_P D classes (cs_PM_isCalled cI cZ a_p0 a_cabman a_shows z_text z_layer z_readLayer z_readCabman z_page z_trial z_book z_kept z_isKept z_seenCabman z_seenFinger z_seenOff z_seenCame z_value v_thrown v_textSize v_place v_cabmen v_readCabmen v_acts v_seen v_seed v_bestCleaning v_bestLayers v_bestMany v_underMany v_underLeast v_restMany v_restFirst v_cabman v_shows) H → va_D A (cs_PM_isCalled cI cZ a_p0 a_cabman a_shows z_text z_layer z_readLayer z_readCabman z_page z_trial z_book z_kept z_isKept z_seenCabman z_seenFinger z_seenOff z_seenCame z_value v_thrown v_textSize v_place v_cabmen v_readCabmen v_acts v_seen v_seed v_bestCleaning v_bestLayers v_bestMany v_underMany v_underLeast v_restMany v_restFirst v_cabman v_shows) → va_S A s.heap H locs → lv_has ls 7 [(0, .ref a_p0), (1, .int x1), (2, .int x2), (4, .int x4), (5, .int x5)] → f_PM_isCalled_66 back_8 v_cabman v_shows x1 x2 x4 x5 w0 w1 = some res → W p l e (rm_ 1 (40 * 1)) s m args below meth c H locs 0 0 Q (F0 m 66 ls [.int w1, .int w0]) := by
    intro back_8 K_8 x1 x2 x4 x5 w0 w1 H locs ls hP hD hS hl hf
    unfold f_PM_isCalled_66 at hf
    refine lv_ior hx hb d_PM_isCalled_66 ?_
    refine lv_istore_n (lv' := [(3, .int (w0 ||| w1)), (0, .ref a_p0), (1, .int x1), (2, .int x2), (4, .int x4), (5, .int x5)]) hx hb d_PM_isCalled_67 rfl hl (by decide) rfl (fun ls hl => ?_)
    refine lv_iload hx hb d_PM_isCalled_68 (lv_at hl 4 rfl) ?_
    refine lv_if_ne (tgt := 84) hx hb d_PM_isCalled_70 (by decide) (fun c1 => ?_) (fun c1 => ?_)
    · have hf := o_neg c1 hf
      exact B_84 back_8 K_8 x1 x2 (w0 ||| w1) x5 _ _ _ hP hD hS (lv_sub hl [1, 2, 3, 0, 5] rfl) hf
    · have hf := o_pos c1 hf
      refine lv_aload_n hx hb d_PM_isCalled_73 rfl (lv_at hl 1 rfl) ?_
      refine gf_PM_56 hC hP 0 rfl rfl d_PM_isCalled_74 ?_
      refine lv_iload hx hb d_PM_isCalled_77 (lv_at hl 5 rfl) ?_
      obtain ⟨v2, h3, hf⟩ := o_bind hf
      refine r_iald hC hP 2 rfl h3 d_PM_isCalled_79 ?_
      refine lv_iconst (v := 2) hx hb d_PM_isCalled_80 (by decide) ?_
      refine lv_icmp_ne (tgt := 88) hx hb d_PM_isCalled_81 (by decide) (fun c4 => ?_) (fun c4 => ?_)
      · have hf := o_neg c4 hf
        refine lv_iconst (v := 0) hx hb d_PM_isCalled_88 (by decide) ?_
        exact B_89 back_8 K_8 x1 x2 (w0 ||| w1) x5 0 _ _ _ hP hD hS (lv_sub hl [1, 2, 3, 0, 5] rfl) hf
      · have hf := o_pos c4 hf
        exact B_84 back_8 K_8 x1 x2 (w0 ||| w1) x5 _ _ _ hP hD hS (lv_sub hl [1, 2, 3, 0, 5] rfl) hf
  have B_65 : ∀ (back_8 : Int32 → Int32 → Int32 → Int32 → Int32 → Option Int32) (K_8 : ∀ (x1 : Int32) (x2 : Int32) (x3 : Int32) (x4 : Int32) (x5 : Int32) (H : Heap) (locs : List Loc) (ls : Array Slot), va_P D classes (cs_PM_isCalled cI cZ a_p0 a_cabman a_shows z_text z_layer z_readLayer z_readCabman z_page z_trial z_book z_kept z_isKept z_seenCabman z_seenFinger z_seenOff z_seenCame z_value v_thrown v_textSize v_place v_cabmen v_readCabmen v_acts v_seen v_seed v_bestCleaning v_bestLayers v_bestMany v_underMany v_underLeast v_restMany v_restFirst v_cabman v_shows) H → va_D A (cs_PM_isCalled cI cZ a_p0 a_cabman a_shows z_text z_layer z_readLayer z_readCabman z_page z_trial z_book z_kept z_isKept z_seenCabman z_seenFinger z_seenOff z_seenCame z_value v_thrown v_textSize v_place v_cabmen v_readCabmen v_acts v_seen v_seed v_bestCleaning v_bestLayers v_bestMany v_underMany v_underLeast v_restMany v_restFirst v_cabman v_shows) → va_S A s.heap H locs → lv_has ls 7 [(0, .ref a_p0), (1, .int x1), (2, .int x2), (3, .int x3), (4, .int x4), (5, .int x5)] → back_8 x1 x2 x3 x4 x5 = some res → W p l e (rm_ 1 (40 * 1)) s m args below meth c H locs 0 0 Q (F0 m 8 ls [])) (x1 : Int32) (x2 : Int32) (x4 : Int32) (x5 : Int32) (w0 : Int32) (H : Heap) (locs : List Loc) (ls : Array Slot), va_P D classes (cs_PM_isCalled cI cZ a_p0 a_cabman a_shows z_text z_layer z_readLayer z_readCabman z_page z_trial z_book z_kept z_isKept z_seenCabman z_seenFinger z_seenOff z_seenCame z_value v_thrown v_textSize v_place v_cabmen v_readCabmen v_acts v_seen v_seed v_bestCleaning v_bestLayers v_bestMany v_underMany v_underLeast v_restMany v_restFirst v_cabman v_shows) H → va_D A (cs_PM_isCalled cI cZ a_p0 a_cabman a_shows z_text z_layer z_readLayer z_readCabman z_page z_trial z_book z_kept z_isKept z_seenCabman z_seenFinger z_seenOff z_seenCame z_value v_thrown v_textSize v_place v_cabmen v_readCabmen v_acts v_seen v_seed v_bestCleaning v_bestLayers v_bestMany v_underMany v_underLeast v_restMany v_restFirst v_cabman v_shows) → va_S A s.heap H locs → lv_has ls 7 [(0, .ref a_p0), (1, .int x1), (2, .int x2), (4, .int x4), (5, .int x5)] → f_PM_isCalled_65 back_8 v_cabman v_shows x1 x2 x4 x5 w0 = some res → W p l e (rm_ 1 (40 * 1)) s m args below meth c H locs 0 0 Q (F0 m 65 ls [.int w0]) := by
    intro back_8 K_8 x1 x2 x4 x5 w0 H locs ls hP hD hS hl hf
    unfold f_PM_isCalled_65 at hf
    refine lv_iconst (v := 0) hx hb d_PM_isCalled_65 (by decide) ?_
    exact B_66 back_8 K_8 x1 x2 x4 x5 w0 0 _ _ _ hP hD hS (lv_sub hl [0, 1, 2, 3, 4] rfl) hf
  have B_58 : ∀ (back_8 : Int32 → Int32 → Int32 → Int32 → Int32 → Option Int32) (K_8 : ∀ (x1 : Int32) (x2 : Int32) (x3 : Int32) (x4 : Int32) (x5 : Int32) (H : Heap) (locs : List Loc) (ls : Array Slot), va_P D classes (cs_PM_isCalled cI cZ a_p0 a_cabman a_shows z_text z_layer z_readLayer z_readCabman z_page z_trial z_book z_kept z_isKept z_seenCabman z_seenFinger z_seenOff z_seenCame z_value v_thrown v_textSize v_place v_cabmen v_readCabmen v_acts v_seen v_seed v_bestCleaning v_bestLayers v_bestMany v_underMany v_underLeast v_restMany v_restFirst v_cabman v_shows) H → va_D A (cs_PM_isCalled cI cZ a_p0 a_cabman a_shows z_text z_layer z_readLayer z_readCabman z_page z_trial z_book z_kept z_isKept z_seenCabman z_seenFinger z_seenOff z_seenCame z_value v_thrown v_textSize v_place v_cabmen v_readCabmen v_acts v_seen v_seed v_bestCleaning v_bestLayers v_bestMany v_underMany v_underLeast v_restMany v_restFirst v_cabman v_shows) → va_S A s.heap H locs → lv_has ls 7 [(0, .ref a_p0), (1, .int x1), (2, .int x2), (3, .int x3), (4, .int x4), (5, .int x5)] → back_8 x1 x2 x3 x4 x5 = some res → W p l e (rm_ 1 (40 * 1)) s m args below meth c H locs 0 0 Q (F0 m 8 ls [])) (x1 : Int32) (x2 : Int32) (x4 : Int32) (x5 : Int32) (w0 : Int32) (H : Heap) (locs : List Loc) (ls : Array Slot), va_P D classes (cs_PM_isCalled cI cZ a_p0 a_cabman a_shows z_text z_layer z_readLayer z_readCabman z_page z_trial z_book z_kept z_isKept z_seenCabman z_seenFinger z_seenOff z_seenCame z_value v_thrown v_textSize v_place v_cabmen v_readCabmen v_acts v_seen v_seed v_bestCleaning v_bestLayers v_bestMany v_underMany v_underLeast v_restMany v_restFirst v_cabman v_shows) H → va_D A (cs_PM_isCalled cI cZ a_p0 a_cabman a_shows z_text z_layer z_readLayer z_readCabman z_page z_trial z_book z_kept z_isKept z_seenCabman z_seenFinger z_seenOff z_seenCame z_value v_thrown v_textSize v_place v_cabmen v_readCabmen v_acts v_seen v_seed v_bestCleaning v_bestLayers v_bestMany v_underMany v_underLeast v_restMany v_restFirst v_cabman v_shows) → va_S A s.heap H locs → lv_has ls 7 [(0, .ref a_p0), (1, .int x1), (2, .int x2), (4, .int x4), (5, .int x5)] → f_PM_isCalled_58 back_8 v_cabman v_shows x1 x2 x4 x5 w0 = some res → W p l e (rm_ 1 (40 * 1)) s m args below meth c H locs 0 0 Q (F0 m 58 ls [.int w0]) := by
    intro back_8 K_8 x1 x2 x4 x5 w0 H locs ls hP hD hS hl hf
    unfold f_PM_isCalled_58 at hf
    refine lv_iconst (v := 1) hx hb d_PM_isCalled_58 (by decide) ?_
    refine lv_iload hx hb d_PM_isCalled_59 (lv_at hl 4 rfl) ?_
    refine lv_ishl hx hb d_PM_isCalled_61 ?_
    refine lv_goto (tgt := 66) hx hb d_PM_isCalled_62 (by decide) ?_
    exact B_66 back_8 K_8 x1 x2 x4 x5 w0 (slI 1 x5) _ _ _ hP hD hS (lv_sub hl [0, 1, 2, 3, 4] rfl) hf
  have B_8 : ∀  (n : Nat) (x1 : Int32) (x2 : Int32) (x3 : Int32) (x4 : Int32) (x5 : Int32) (H : Heap) (locs : List Loc) (ls : Array Slot), va_P D classes (cs_PM_isCalled cI cZ a_p0 a_cabman a_shows z_text z_layer z_readLayer z_readCabman z_page z_trial z_book z_kept z_isKept z_seenCabman z_seenFinger z_seenOff z_seenCame z_value v_thrown v_textSize v_place v_cabmen v_readCabmen v_acts v_seen v_seed v_bestCleaning v_bestLayers v_bestMany v_underMany v_underLeast v_restMany v_restFirst v_cabman v_shows) H → va_D A (cs_PM_isCalled cI cZ a_p0 a_cabman a_shows z_text z_layer z_readLayer z_readCabman z_page z_trial z_book z_kept z_isKept z_seenCabman z_seenFinger z_seenOff z_seenCame z_value v_thrown v_textSize v_place v_cabmen v_readCabmen v_acts v_seen v_seed v_bestCleaning v_bestLayers v_bestMany v_underMany v_underLeast v_restMany v_restFirst v_cabman v_shows) → va_S A s.heap H locs → lv_has ls 7 [(0, .ref a_p0), (1, .int x1), (2, .int x2), (3, .int x3), (4, .int x4), (5, .int x5)] → f_PM_isCalled_8  v_cabman v_shows n x1 x2 x3 x4 x5 = some res → W p l e (rm_ 1 (40 * 1)) s m args below meth c H locs 0 0 Q (F0 m 8 ls []) := by
    intro  n
    induction n with
    | zero => intro x1 x2 x3 x4 x5 H locs ls hP hD hS hl hf; exact nomatch hf
    | succ n ih =>
      intro x1 x2 x3 x4 x5 H locs ls hP hD hS hl hf
      have hf : f_PM_isCalled_8_b  (f_PM_isCalled_8  v_cabman v_shows n) v_cabman v_shows x1 x2 x3 x4 x5 = some res := hf
      generalize f_PM_isCalled_8  v_cabman v_shows n = back_8 at ih hf
      have K_8 := ih
      unfold f_PM_isCalled_8_b at hf
      refine lv_iload hx hb d_PM_isCalled_8 (lv_at hl 5 rfl) ?_
      refine lv_iconst (v := 4) hx hb d_PM_isCalled_10 (by decide) ?_
      refine lv_icmp_ge (tgt := 97) hx hb d_PM_isCalled_11 (by decide) (fun c1 => ?_) (fun c1 => ?_)
      · have hf := o_pos c1 hf
        refine lv_aload_n hx hb d_PM_isCalled_97 rfl (lv_at hl 0 rfl) ?_
        refine gf_PM_16 hC hP 0 rfl rfl d_PM_isCalled_98 ?_
        refine lv_bipush (v := 6) hx hb d_PM_isCalled_101 (by decide) ?_
        refine lv_iload_n hx hb d_PM_isCalled_103 rfl (lv_at hl 1 rfl) ?_
        refine lv_imul hx hb d_PM_isCalled_104 ?_
        obtain ⟨v2, h3, hf⟩ := o_bind hf
        refine r_iald hC hP 1 rfl h3 d_PM_isCalled_105 ?_
        refine lv_iconst (v := 1) hx hb d_PM_isCalled_106 (by decide) ?_
        refine lv_icmp_ne (tgt := 123) hx hb d_PM_isCalled_107 (by decide) (fun c4 => ?_) (fun c4 => ?_)
        · have hf := o_neg c4 hf
          refine lv_iload_n hx hb d_PM_isCalled_123 rfl (lv_at hl 3 rfl) ?_
          refine lv_bipush (v := 15) hx hb d_PM_isCalled_124 (by decide) ?_
          refine lv_icmp_ne (tgt := 151) hx hb d_PM_isCalled_126 (by decide) (fun c5 => ?_) (fun c5 => ?_)
          · have hf := o_neg c5 hf
            exact B_151 _ _ _ hP hD hS (lv_sub hl [] rfl) hf
          · have hf := o_pos c5 hf
            refine lv_aload_n hx hb d_PM_isCalled_129 rfl (lv_at hl 0 rfl) ?_
            refine gf_PM_16 hC hP 0 rfl rfl d_PM_isCalled_130 ?_
            refine lv_bipush (v := 6) hx hb d_PM_isCalled_133 (by decide) ?_
            refine lv_iload_n hx hb d_PM_isCalled_135 rfl (lv_at hl 1 rfl) ?_
            refine lv_imul hx hb d_PM_isCalled_136 ?_
            obtain ⟨v6, h7, hf⟩ := o_bind hf
            refine r_iald hC hP 1 rfl h7 d_PM_isCalled_137 ?_
            refine lv_iconst (v := 2) hx hb d_PM_isCalled_138 (by decide) ?_
            refine lv_icmp_ne (tgt := 147) hx hb d_PM_isCalled_139 (by decide) (fun c8 => ?_) (fun c8 => ?_)
            · have hf := o_neg c8 hf
              exact B_147 _ _ _ hP hD hS (lv_sub hl [] rfl) hf
            · have hf := o_pos c8 hf
              refine lv_iload hx hb d_PM_isCalled_142 (lv_at hl 4 rfl) ?_
              refine lv_if_eq (tgt := 151) hx hb d_PM_isCalled_144 (by decide) (fun c9 => ?_) (fun c9 => ?_)
              · have hf := o_pos c9 hf
                exact B_151 _ _ _ hP hD hS (lv_sub hl [] rfl) hf
              · have hf := o_neg c9 hf
                exact B_147 _ _ _ hP hD hS (lv_sub hl [] rfl) hf
        · have hf := o_pos c4 hf
          refine lv_iload_n hx hb d_PM_isCalled_110 rfl (lv_at hl 3 rfl) ?_
          refine lv_iconst (v := 3) hx hb d_PM_isCalled_111 (by decide) ?_
          refine lv_iand hx hb d_PM_isCalled_112 ?_
          refine lv_iconst (v := 3) hx hb d_PM_isCalled_113 (by decide) ?_
          refine lv_icmp_ne (tgt := 121) hx hb d_PM_isCalled_114 (by decide) (fun c10 => ?_) (fun c10 => ?_)
          · have hf := o_neg c10 hf
            refine lv_iconst (v := 0) hx hb d_PM_isCalled_121 (by decide) ?_
            exact B_122 0 _ _ _ hP hD hS (lv_sub hl [] rfl) hf
          · have hf := o_pos c10 hf
            refine lv_iconst (v := 1) hx hb d_PM_isCalled_117 (by decide) ?_
            refine lv_goto (tgt := 122) hx hb d_PM_isCalled_118 (by decide) ?_
            exact B_122 1 _ _ _ hP hD hS (lv_sub hl [] rfl) hf
      · have hf := o_neg c1 hf
        refine lv_aload_n hx hb d_PM_isCalled_14 rfl (lv_at hl 0 rfl) ?_
        refine gf_PM_16 hC hP 0 rfl rfl d_PM_isCalled_15 ?_
        refine lv_bipush (v := 6) hx hb d_PM_isCalled_18 (by decide) ?_
        refine lv_iload_n hx hb d_PM_isCalled_20 rfl (lv_at hl 1 rfl) ?_
        refine lv_imul hx hb d_PM_isCalled_21 ?_
        refine lv_iconst (v := 2) hx hb d_PM_isCalled_22 (by decide) ?_
        refine lv_iadd hx hb d_PM_isCalled_23 ?_
        refine lv_iload hx hb d_PM_isCalled_24 (lv_at hl 5 rfl) ?_
        refine lv_iadd hx hb d_PM_isCalled_26 ?_
        obtain ⟨v11, h12, hf⟩ := o_bind hf
        refine r_iald hC hP 1 rfl h12 d_PM_isCalled_27 ?_
        refine lv_istore (lv' := [(6, .int v11), (0, .ref a_p0), (1, .int x1), (2, .int x2), (3, .int x3), (4, .int x4), (5, .int x5)]) hx hb d_PM_isCalled_28 hl (by decide) rfl (fun ls hl => ?_)
        refine lv_iload_n hx hb d_PM_isCalled_30 rfl (lv_at hl 4 rfl) ?_
        refine lv_iload_n hx hb d_PM_isCalled_31 rfl (lv_at hl 3 rfl) ?_
        refine lv_iload hx hb d_PM_isCalled_32 (lv_at hl 6 rfl) ?_
        obtain ⟨r13, h14, hf⟩ := o_bind hf
        refine cSi0 (rest := [.int x3]) (c_PM_has l D cI cZ x2 x5 r13 h14) hC hA hP hD hS hl.1 cw_PM_105 ⟨Nat.le_of_ble_eq_true rfl, Nat.le_of_ble_eq_true rfl⟩ rfl rfl (Nat.le_of_ble_eq_true rfl) d_PM_isCalled_34 ⟨Nat.zero_le _, Nat.zero_le _⟩ (fun H locs hP hS => ?_)
        refine lv_if_eq (tgt := 65) hx hb d_PM_isCalled_37 (by decide) (fun c15 => ?_) (fun c15 => ?_)
        · have hf := o_pos c15 hf
          exact B_65 back_8 K_8 x1 x2 x4 x5 x3 _ _ _ hP hD hS (lv_sub hl [1, 2, 3, 5, 6] rfl) hf
        · have hf := o_neg c15 hf
          refine lv_iload hx hb d_PM_isCalled_40 (lv_at hl 0 rfl) ?_
          refine lv_iconst (v := 3) hx hb d_PM_isCalled_42 (by decide) ?_
          refine lv_icmp_eq (tgt := 58) hx hb d_PM_isCalled_43 (by decide) (fun c16 => ?_) (fun c16 => ?_)
          · have hf := o_pos c16 hf
            exact B_58 back_8 K_8 x1 x2 x4 x5 x3 _ _ _ hP hD hS (lv_sub hl [1, 2, 3, 5, 6] rfl) hf
          · have hf := o_neg c16 hf
            refine lv_iload hx hb d_PM_isCalled_46 (lv_at hl 0 rfl) ?_
            refine lv_aload_n hx hb d_PM_isCalled_48 rfl (lv_at hl 1 rfl) ?_
            refine gf_PM_56 hC hP 0 rfl rfl d_PM_isCalled_49 ?_
            refine lv_iload hx hb d_PM_isCalled_52 (lv_at hl 6 rfl) ?_
            obtain ⟨v17, h18, hf⟩ := o_bind hf
            refine r_iald hC hP 2 rfl h18 d_PM_isCalled_54 ?_
            refine lv_icmp_ne (tgt := 65) hx hb d_PM_isCalled_55 (by decide) (fun c19 => ?_) (fun c19 => ?_)
            · have hf := o_neg c19 hf
              exact B_65 back_8 K_8 x1 x2 x4 x5 x3 _ _ _ hP hD hS (lv_sub hl [1, 2, 3, 5, 6] rfl) hf
            · have hf := o_pos c19 hf
              exact B_58 back_8 K_8 x1 x2 x4 x5 x3 _ _ _ hP hD hS (lv_sub hl [1, 2, 3, 5, 6] rfl) hf
  unfold f_PM_isCalled at hf
  have E : ∀ (H : Heap) (locs : List Loc), va_P D classes (cs_PM_isCalled cI cZ a_p0 a_cabman a_shows z_text z_layer z_readLayer z_readCabman z_page z_trial z_book z_kept z_isKept z_seenCabman z_seenFinger z_seenOff z_seenCame z_value v_thrown v_textSize v_place v_cabmen v_readCabmen v_acts v_seen v_seed v_bestCleaning v_bestLayers v_bestMany v_underMany v_underLeast v_restMany v_restFirst v_cabman v_shows) H → va_S A s.heap H locs → W p l e (rm_ 1 (40 * 1)) s m args below meth c H locs 0 0 Q (F0 m 0 ls []) := by
    intro H locs hP hS
    refine lv_iconst (v := 0) hx hb d_PM_isCalled_0 (by decide) ?_
    refine lv_istore_n (lv' := [(3, .int 0), (0, .ref a_p0), (1, .int i1), (2, .int i2)]) hx hb d_PM_isCalled_1 rfl hl (by decide) rfl (fun ls hl => ?_)
    refine lv_iconst (v := 0) hx hb d_PM_isCalled_2 (by decide) ?_
    refine lv_istore (lv' := [(4, .int 0), (3, .int 0), (0, .ref a_p0), (1, .int i1), (2, .int i2)]) hx hb d_PM_isCalled_3 hl (by decide) rfl (fun ls hl => ?_)
    refine lv_iconst (v := 0) hx hb d_PM_isCalled_5 (by decide) ?_
    refine lv_istore (lv' := [(5, .int 0), (4, .int 0), (3, .int 0), (0, .ref a_p0), (1, .int i1), (2, .int i2)]) hx hb d_PM_isCalled_6 hl (by decide) rfl (fun ls hl => ?_)
    exact B_8 300 i1 i2 0 0 0 _ _ _ hP hD hS (lv_sub hl [3, 4, 5, 2, 1, 0] rfl) hf
  exact E _ _ hP hS
