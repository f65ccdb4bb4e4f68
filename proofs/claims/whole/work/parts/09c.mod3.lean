set_option maxHeartbeats 4000000 in
set_option maxRecDepth 100000 in
theorem c_PM_does (l : Launch) (D : va_G) (cI cZ : ClassId) (a_p0 a_layer a_cabman a_trial a_shows z_text z_readLayer z_readCabman z_page z_book z_kept z_isKept z_seenCabman z_seenFinger z_seenOff z_seenCame z_value : Nat) (i1 : Int32) (v_thrown : Int32) (v_textSize : Int32) (v_place : Int32) (v_cabmen : Int32) (v_readCabmen : Int32) (v_acts : Int32) (v_seen : Int32) (v_seed : Int64) (v_bestCleaning : Int32) (v_bestLayers : Int32) (v_bestMany : Int32) (v_underMany : Int32) (v_underLeast : Int32) (v_restMany : Int32) (v_restFirst : Int32) (v_layer : Nat → Int32) (v_cabman : Nat → Int32) (v_trial : Nat → Int32) (v_shows : Nat → Int32) (res : Int32 × (Nat → Int32) × (Nat → Int32)) (hf : f_PM_does i1 v_cabmen v_layer v_cabman v_trial v_shows = some res) : CtI l y_PM_does b_PM_does 4 (some .boolean) 4 D cI cZ [.ref a_p0, .int i1] (cs_PM_does cI cZ a_p0 a_layer a_cabman a_trial a_shows z_text z_readLayer z_readCabman z_page z_book z_kept z_isKept z_seenCabman z_seenFinger z_seenOff z_seenCame z_value v_thrown v_textSize v_place v_cabmen v_readCabmen v_acts v_seen v_seed v_bestCleaning v_bestLayers v_bestMany v_underMany v_underLeast v_restMany v_restFirst v_layer v_cabman v_trial v_shows) res.1 (cs_PM_does cI cZ a_p0 a_layer a_cabman a_trial a_shows z_text z_readLayer z_readCabman z_page z_book z_kept z_isKept z_seenCabman z_seenFinger z_seenOff z_seenCame z_value v_thrown v_textSize v_place v_cabmen v_readCabmen v_acts v_seen v_seed v_bestCleaning v_bestLayers v_bestMany v_underMany v_underLeast v_restMany v_restFirst v_layer v_cabman res.2.1 res.2.2) := by
  refine CtI_mk (by decide) (Nat.le_of_ble_eq_true rfl) ?_
  intro p e s m args below meth c A Q hC hA hP hD RET ls hl
  have hC : Cx p s m args meth c b_PM_does 4 R_PM D cI cZ := hC
  have hl : lv_has ls 4 [(0, .ref a_p0), (1, .int i1)] := hl
  obtain ⟨hx, hb, hml, hown, hts, hlk, hKK⟩ := id hC
  have hS : va_S A s.heap s.heap [] := va_S.rf
  have B_94 : ∀  (v_trial : Nat → Int32) (v_shows : Nat → Int32) (H : Heap) (locs : List Loc) (ls : Array Slot), va_P D classes (cs_PM_does cI cZ a_p0 a_layer a_cabman a_trial a_shows z_text z_readLayer z_readCabman z_page z_book z_kept z_isKept z_seenCabman z_seenFinger z_seenOff z_seenCame z_value v_thrown v_textSize v_place v_cabmen v_readCabmen v_acts v_seen v_seed v_bestCleaning v_bestLayers v_bestMany v_underMany v_underLeast v_restMany v_restFirst v_layer v_cabman v_trial v_shows) H → va_D A (cs_PM_does cI cZ a_p0 a_layer a_cabman a_trial a_shows z_text z_readLayer z_readCabman z_page z_book z_kept z_isKept z_seenCabman z_seenFinger z_seenOff z_seenCame z_value v_thrown v_textSize v_place v_cabmen v_readCabmen v_acts v_seen v_seed v_bestCleaning v_bestLayers v_bestMany v_underMany v_underLeast v_restMany v_restFirst v_layer v_cabman v_trial v_shows) → va_S A s.heap H locs → lv_has ls 4 [] → f_PM_does_94  v_cabmen v_layer v_cabman v_trial v_shows = some res → W p l e (rm_ 4 (40 * 4)) s m args below meth c H locs 0 0 Q (F0 m 94 ls []) := by
    intro  v_trial v_shows H locs ls hP hD hS hl hf
    unfold f_PM_does_94 at hf
    refine lv_iconst (v := 0) hx hb d_PM_does_94 (by decide) ?_
    have hr := Option.some.inj hf
    exact RET _ _ _ _ _ _ rfl (congrArg (fun r : Int32 × (Nat → Int32) × (Nat → Int32) => r.1) hr) (congrArg (fun r : Int32 × (Nat → Int32) × (Nat → Int32) => (cs_PM_does cI cZ a_p0 a_layer a_cabman a_trial a_shows z_text z_readLayer z_readCabman z_page z_book z_kept z_isKept z_seenCabman z_seenFinger z_seenOff z_seenCame z_value v_thrown v_textSize v_place v_cabmen v_readCabmen v_acts v_seen v_seed v_bestCleaning v_bestLayers v_bestMany v_underMany v_underLeast v_restMany v_restFirst v_layer v_cabman r.2.1 r.2.2)) hr) hP hD hS d_PM_does_95
  have B_115 : ∀  (w1 : Int32) (w2 : Int32) (w3 : Int32) (v_trial : Nat → Int32) (v_shows : Nat → Int32) (H : Heap) (locs : List Loc) (ls : Array Slot), va_P D classes (cs_PM_does cI cZ a_p0 a_layer a_cabman a_trial a_shows z_text z_readLayer z_readCabman z_page z_book z_kept z_isKept z_seenCabman z_seenFinger z_seenOff z_seenCame z_value v_thrown v_textSize v_place v_cabmen v_readCabmen v_acts v_seen v_seed v_bestCleaning v_bestLayers v_bestMany v_underMany v_underLeast v_restMany v_restFirst v_layer v_cabman v_trial v_shows) H → va_D A (cs_PM_does cI cZ a_p0 a_layer a_cabman a_trial a_shows z_text z_readLayer z_readCabman z_page z_book z_kept z_isKept z_seenCabman z_seenFinger z_seenOff z_seenCame z_value v_thrown v_textSize v_place v_cabmen v_readCabmen v_acts v_seen v_seed v_bestCleaning v_bestLayers v_bestMany v_underMany v_underLeast v_restMany v_restFirst v_layer v_cabman v_trial v_shows) → va_S A s.heap H locs → lv_has ls 4 [] → f_PM_does_115  v_cabmen v_layer v_cabman w1 w2 w3 v_trial v_shows = some res → W p l e (rm_ 4 (40 * 4)) s m args below meth c H locs 0 0 Q (F0 m 115 ls [.int w3, .int w2, .int w1, .ref a_trial]) := by
    intro  w1 w2 w3 v_trial v_shows H locs ls hP hD hS hl hf
    unfold f_PM_does_115 at hf
    refine lv_iadd hx hb d_PM_does_115 ?_
    obtain ⟨g1, h2, hf⟩ := o_bind hf
    refine r_iast hC hP hD hS 3 rfl h2 d_PM_does_116 (fun H locs hP hD hS => ?_)
    have hP : va_P D classes (cs_PM_does cI cZ a_p0 a_layer a_cabman a_trial a_shows z_text z_readLayer z_readCabman z_page z_book z_kept z_isKept z_seenCabman z_seenFinger z_seenOff z_seenCame z_value v_thrown v_textSize v_place v_cabmen v_readCabmen v_acts v_seen v_seed v_bestCleaning v_bestLayers v_bestMany v_underMany v_underLeast v_restMany v_restFirst v_layer v_cabman g1 v_shows) H := hP
    have hD : va_D A (cs_PM_does cI cZ a_p0 a_layer a_cabman a_trial a_shows z_text z_readLayer z_readCabman z_page z_book z_kept z_isKept z_seenCabman z_seenFinger z_seenOff z_seenCame z_value v_thrown v_textSize v_place v_cabmen v_readCabmen v_acts v_seen v_seed v_bestCleaning v_bestLayers v_bestMany v_underMany v_underLeast v_restMany v_restFirst v_layer v_cabman g1 v_shows) := hD
    refine lv_iconst (v := 1) hx hb d_PM_does_117 (by decide) ?_
    have hr := Option.some.inj hf
    exact RET _ _ _ _ _ _ rfl (congrArg (fun r : Int32 × (Nat → Int32) × (Nat → Int32) => r.1) hr) (congrArg (fun r : Int32 × (Nat → Int32) × (Nat → Int32) => (cs_PM_does cI cZ a_p0 a_layer a_cabman a_trial a_shows z_text z_readLayer z_readCabman z_page z_book z_kept z_isKept z_seenCabman z_seenFinger z_seenOff z_seenCame z_value v_thrown v_textSize v_place v_cabmen v_readCabmen v_acts v_seen v_seed v_bestCleaning v_bestLayers v_bestMany v_underMany v_underLeast v_restMany v_restFirst v_layer v_cabman r.2.1 r.2.2)) hr) hP hD hS d_PM_does_118
  have B_91 : ∀  (x2 : Int32) (x3 : Int32) (w0 : Int32) (w1 : Int32) (v_trial : Nat → Int32) (v_shows : Nat → Int32) (H : Heap) (locs : List Loc) (ls : Array Slot), va_P D classes (cs_PM_does cI cZ a_p0 a_layer a_cabman a_trial a_shows z_text z_readLayer z_readCabman z_page z_book z_kept z_isKept z_seenCabman z_seenFinger z_seenOff z_seenCame z_value v_thrown v_textSize v_place v_cabmen v_readCabmen v_acts v_seen v_seed v_bestCleaning v_bestLayers v_bestMany v_underMany v_underLeast v_restMany v_restFirst v_layer v_cabman v_trial v_shows) H → va_D A (cs_PM_does cI cZ a_p0 a_layer a_cabman a_trial a_shows z_text z_readLayer z_readCabman z_page z_book z_kept z_isKept z_seenCabman z_seenFinger z_seenOff z_seenCame z_value v_thrown v_textSize v_place v_cabmen v_readCabmen v_acts v_seen v_seed v_bestCleaning v_bestLayers v_bestMany v_underMany v_underLeast v_restMany v_restFirst v_layer v_cabman v_trial v_shows) → va_S A s.heap H locs → lv_has ls 4 [(0, .ref a_p0), (2, .int x2), (3, .int x3)] → f_PM_does_91  v_cabmen v_layer v_cabman x2 x3 w0 w1 v_trial v_shows = some res → W p l e (rm_ 4 (40 * 4)) s m args below meth c H locs 0 0 Q (F0 m 91 ls [.int w1, .int w0]) := by
    intro  x2 x3 w0 w1 v_trial v_shows H locs ls hP hD hS hl hf
    unfold f_PM_does_91 at hf
    refine lv_icmp_ne (tgt := 96) hx hb d_PM_does_91 (by decide) (fun c1 => ?_) (fun c1 => ?_)
    · have hf := o_neg c1 hf
      refine lv_aload_n hx hb d_PM_does_96 rfl (lv_at hl 0 rfl) ?_
      refine gf_PM_28 hC hP 0 rfl rfl d_PM_does_97 ?_
      refine lv_iconst (v := 0) hx hb d_PM_does_100 (by decide) ?_
      refine lv_iload_n hx hb d_PM_does_101 rfl (lv_at hl 2 rfl) ?_
      refine lv_iadd hx hb d_PM_does_102 ?_
      refine lv_dup2_11 hx hb d_PM_does_103 rfl rfl ?_
      obtain ⟨v2, h3, hf⟩ := o_bind hf
      refine r_iald hC hP 3 rfl h3 d_PM_does_104 ?_
      refine lv_iload_n hx hb d_PM_does_105 rfl (lv_at hl 1 rfl) ?_
      refine lv_iconst (v := 1) hx hb d_PM_does_106 (by decide) ?_
      refine lv_icmp_ne (tgt := 114) hx hb d_PM_does_107 (by decide) (fun c4 => ?_) (fun c4 => ?_)
      · have hf := o_neg c4 hf
        refine lv_iconst (v := (-1)) hx hb d_PM_does_114 (by decide) ?_
        exact B_115 (0 + x3) v2 ((-1)) v_trial v_shows _ _ _ hP hD hS (lv_sub hl [] rfl) hf
      · have hf := o_pos c4 hf
        refine lv_iconst (v := 1) hx hb d_PM_does_110 (by decide) ?_
        refine lv_goto (tgt := 115) hx hb d_PM_does_111 (by decide) ?_
        exact B_115 (0 + x3) v2 1 v_trial v_shows _ _ _ hP hD hS (lv_sub hl [] rfl) hf
    · have hf := o_pos c1 hf
      exact B_94 v_trial v_shows _ _ _ hP hD hS (lv_sub hl [] rfl) hf
  have B_54 : ∀  (x2 : Int32) (x3 : Int32) (v_trial : Nat → Int32) (v_shows : Nat → Int32) (H : Heap) (locs : List Loc) (ls : Array Slot), va_P D classes (cs_PM_does cI cZ a_p0 a_layer a_cabman a_trial a_shows z_text z_readLayer z_readCabman z_page z_book z_kept z_isKept z_seenCabman z_seenFinger z_seenOff z_seenCame z_value v_thrown v_textSize v_place v_cabmen v_readCabmen v_acts v_seen v_seed v_bestCleaning v_bestLayers v_bestMany v_underMany v_underLeast v_restMany v_restFirst v_layer v_cabman v_trial v_shows) H → va_D A (cs_PM_does cI cZ a_p0 a_layer a_cabman a_trial a_shows z_text z_readLayer z_readCabman z_page z_book z_kept z_isKept z_seenCabman z_seenFinger z_seenOff z_seenCame z_value v_thrown v_textSize v_place v_cabmen v_readCabmen v_acts v_seen v_seed v_bestCleaning v_bestLayers v_bestMany v_underMany v_underLeast v_restMany v_restFirst v_layer v_cabman v_trial v_shows) → va_S A s.heap H locs → lv_has ls 4 [(0, .ref a_p0), (2, .int x2), (3, .int x3)] → f_PM_does_54  v_cabmen v_layer v_cabman x2 x3 v_trial v_shows = some res → W p l e (rm_ 4 (40 * 4)) s m args below meth c H locs 0 0 Q (F0 m 54 ls []) := by
    intro  x2 x3 v_trial v_shows H locs ls hP hD hS hl hf
    unfold f_PM_does_54 at hf
    refine lv_iload_n hx hb d_PM_does_54 rfl (lv_at hl 2 rfl) ?_
    obtain ⟨r1, h2, hf⟩ := o_bind hf
    refine cSi0 (rest := []) (c_PM_noFinger l D cI cZ x3 r1 h2) hC hA hP hD hS hl.1 cw_PM_127 ⟨Nat.le_of_ble_eq_true rfl, Nat.le_of_ble_eq_true rfl⟩ rfl rfl (Nat.le_of_ble_eq_true rfl) d_PM_does_55 ⟨Nat.zero_le _, Nat.zero_le _⟩ (fun H locs hP hS => ?_)
    refine lv_if_ne (tgt := 94) hx hb d_PM_does_58 (by decide) (fun c3 => ?_) (fun c3 => ?_)
    · have hf := o_neg c3 hf
      exact B_94 v_trial v_shows _ _ _ hP hD hS (lv_sub hl [] rfl) hf
    · have hf := o_pos c3 hf
      refine lv_iload_n hx hb d_PM_does_61 rfl (lv_at hl 1 rfl) ?_
      refine lv_i2l (v := Int32.toInt64 x2) hx hb d_PM_does_62 rfl ?_
      refine lv_lconst (v := 1) hx hb d_PM_does_63 (by decide) ?_
      refine lv_ldc2 (v := 2) hx hb hown (hts _ g674) d_PM_does_64 ?_
      obtain ⟨r4, h5, hf⟩ := o_bind hf
      refine cSi0 (rest := []) (c_PM_in l D cI cZ (Int32.toInt64 x2) 1 2 r4 h5) hC hA hP hD hS hl.1 cw_PM_66 ⟨Nat.le_of_ble_eq_true rfl, Nat.le_of_ble_eq_true rfl⟩ rfl rfl (Nat.le_of_ble_eq_true rfl) d_PM_does_67 ⟨Nat.zero_le _, Nat.zero_le _⟩ (fun H locs hP hS => ?_)
      refine lv_if_eq (tgt := 94) hx hb d_PM_does_70 (by decide) (fun c6 => ?_) (fun c6 => ?_)
      · have hf := o_pos c6 hf
        exact B_94 v_trial v_shows _ _ _ hP hD hS (lv_sub hl [] rfl) hf
      · have hf := o_neg c6 hf
        refine lv_aload_n hx hb d_PM_does_73 rfl (lv_at hl 0 rfl) ?_
        refine gf_PM_28 hC hP 0 rfl rfl d_PM_does_74 ?_
        refine lv_iconst (v := 0) hx hb d_PM_does_77 (by decide) ?_
        refine lv_iload_n hx hb d_PM_does_78 rfl (lv_at hl 2 rfl) ?_
        refine lv_iadd hx hb d_PM_does_79 ?_
        obtain ⟨v7, h8, hf⟩ := o_bind hf
        refine r_iald hC hP 3 rfl h8 d_PM_does_80 ?_
        refine lv_iload_n hx hb d_PM_does_81 rfl (lv_at hl 1 rfl) ?_
        refine lv_iconst (v := 1) hx hb d_PM_does_82 (by decide) ?_
        refine lv_icmp_ne (tgt := 90) hx hb d_PM_does_83 (by decide) (fun c9 => ?_) (fun c9 => ?_)
        · have hf := o_neg c9 hf
          refine lv_iconst (v := 0) hx hb d_PM_does_90 (by decide) ?_
          exact B_91 x2 x3 v7 0 v_trial v_shows _ _ _ hP hD hS (lv_sub hl [0, 1, 2] rfl) hf
        · have hf := o_pos c9 hf
          refine lv_iconst (v := 2) hx hb d_PM_does_86 (by decide) ?_
          refine lv_goto (tgt := 91) hx hb d_PM_does_87 (by decide) ?_
          exact B_91 x2 x3 v7 2 v_trial v_shows _ _ _ hP hD hS (lv_sub hl [0, 1, 2] rfl) hf
  unfold f_PM_does at hf
  have E : ∀ (H : Heap) (locs : List Loc), va_P D classes (cs_PM_does cI cZ a_p0 a_layer a_cabman a_trial a_shows z_text z_readLayer z_readCabman z_page z_book z_kept z_isKept z_seenCabman z_seenFinger z_seenOff z_seenCame z_value v_thrown v_textSize v_place v_cabmen v_readCabmen v_acts v_seen v_seed v_bestCleaning v_bestLayers v_bestMany v_underMany v_underLeast v_restMany v_restFirst v_layer v_cabman v_trial v_shows) H → va_S A s.heap H locs → W p l e (rm_ 4 (40 * 4)) s m args below meth c H locs 0 0 Q (F0 m 0 ls []) := by
    intro H locs hP hS
    refine lv_iload_n hx hb d_PM_does_0 rfl (lv_at hl 1 rfl) ?_
    refine lv_bipush (v := 10) hx hb d_PM_does_1 (by decide) ?_
    refine lv_idiv hx hb d_PM_does_3 (by decide) ?_
    refine lv_istore_n (lv' := [(2, .int (i1 / 10)), (0, .ref a_p0), (1, .int i1)]) hx hb d_PM_does_4 rfl hl (by decide) rfl (fun ls hl => ?_)
    refine lv_iload_n hx hb d_PM_does_5 rfl (lv_at hl 2 rfl) ?_
    refine lv_bipush (v := 10) hx hb d_PM_does_6 (by decide) ?_
    refine lv_irem hx hb d_PM_does_8 (by decide) ?_
    refine lv_istore_n (lv' := [(3, .int (rmI i1 10)), (2, .int (i1 / 10)), (0, .ref a_p0), (1, .int i1)]) hx hb d_PM_does_9 rfl hl (by decide) rfl (fun ls hl => ?_)
    refine lv_iload_n hx hb d_PM_does_10 rfl (lv_at hl 3 rfl) ?_
    refine lv_if_ne (tgt := 24) hx hb d_PM_does_11 (by decide) (fun c1 => ?_) (fun c1 => ?_)
    · have hf := o_neg c1 hf
      refine lv_iload_n hx hb d_PM_does_24 rfl (lv_at hl 3 rfl) ?_
      refine lv_bipush (v := 30) hx hb d_PM_does_25 (by decide) ?_
      refine lv_icmp_ne (tgt := 54) hx hb d_PM_does_27 (by decide) (fun c2 => ?_) (fun c2 => ?_)
      · have hf := o_neg c2 hf
        exact B_54 (i1 / 10) (rmI i1 10) v_trial v_shows _ _ _ hP hD hS (lv_sub hl [2, 1, 0] rfl) hf
      · have hf := o_pos c2 hf
        refine lv_aload_n hx hb d_PM_does_30 rfl (lv_at hl 2 rfl) ?_
        refine gf_PM_28 hC hP 0 rfl rfl d_PM_does_31 ?_
        refine lv_iconst (v := 4) hx hb d_PM_does_34 (by decide) ?_
        obtain ⟨v3, h4, hf⟩ := o_bind hf
        refine r_iald hC hP 3 rfl h4 d_PM_does_35 ?_
        refine lv_if_le (tgt := 54) hx hb d_PM_does_36 (by decide) (fun c5 => ?_) (fun c5 => ?_)
        · have hf := o_pos c5 hf
          exact B_54 (i1 / 10) (rmI i1 10) v_trial v_shows _ _ _ hP hD hS (lv_sub hl [2, 1, 0] rfl) hf
        · have hf := o_neg c5 hf
          refine lv_aload_n hx hb d_PM_does_39 rfl (lv_at hl 2 rfl) ?_
          refine gf_PM_28 hC hP 0 rfl rfl d_PM_does_40 ?_
          refine lv_aload_n hx hb d_PM_does_43 rfl (lv_at hl 2 rfl) ?_
          refine gf_PM_28 hC hP 0 rfl rfl d_PM_does_44 ?_
          refine lv_iconst (v := 5) hx hb d_PM_does_47 (by decide) ?_
          obtain ⟨v6, h7, hf⟩ := o_bind hf
          refine r_iald hC hP 3 rfl h7 d_PM_does_48 ?_
          obtain ⟨r8, h9, hf⟩ := o_bind hf
          refine cSv (rest := []) (wr := [(a_p0, .inr (7, [.int v_thrown, .ref z_text, .int v_textSize, .int v_place, .ref a_layer, .int v_cabmen, .ref a_cabman, .ref z_readLayer, .int v_readCabmen, .ref z_readCabman, .ref z_page, .ref a_trial, .ref z_book, .int v_acts, .ref z_kept, .ref z_isKept, .int v_seen, .ref z_seenCabman, .ref z_seenFinger, .ref z_seenOff, .ref z_seenCame, .long v_seed, .int v_bestCleaning, .int v_bestLayers, .int v_bestMany, .int v_underMany, .int v_underLeast, .int v_restMany, .int v_restFirst, .ref z_value, .ref a_shows])), (a_layer, .inl (cI, 12, .inl v_layer)), (a_cabman, .inl (cI, 30, .inl v_cabman)), (a_shows, .inl (cI, 4, .inl v_shows))]) (wn := (cs_PM_does cI cZ a_p0 a_layer a_cabman a_trial a_shows z_text z_readLayer z_readCabman z_page z_book z_kept z_isKept z_seenCabman z_seenFinger z_seenOff z_seenCame z_value v_thrown v_textSize v_place v_cabmen v_readCabmen v_acts v_seen v_seed v_bestCleaning v_bestLayers v_bestMany v_underMany v_underLeast v_restMany v_restFirst v_layer v_cabman r8 v_shows)) (c_PM_goAway l D cI cZ a_trial v6 v_trial r8 h9) hC hA hP hD hS hl.1 cw_PM_138 ⟨Nat.le_of_ble_eq_true rfl, Nat.le_of_ble_eq_true rfl⟩ rfl rfl (Nat.le_of_ble_eq_true rfl) d_PM_does_49 ⟨Nat.zero_le _, Nat.zero_le _⟩ [3] [0, 1, 2, 4] [0, 1, 2, 4, 3] (by decide) (Cut_mk rfl rfl (by decide) (by decide) (by decide) rfl) (fun H locs hP hD hS => ?_)
          refine lv_iconst (v := 1) hx hb d_PM_does_52 (by decide) ?_
          have hr := Option.some.inj hf
          exact RET _ _ _ _ _ _ rfl (congrArg (fun r : Int32 × (Nat → Int32) × (Nat → Int32) => r.1) hr) (congrArg (fun r : Int32 × (Nat → Int32) × (Nat → Int32) => (cs_PM_does cI cZ a_p0 a_layer a_cabman a_trial a_shows z_text z_readLayer z_readCabman z_page z_book z_kept z_isKept z_seenCabman z_seenFinger z_seenOff z_seenCame z_value v_thrown v_textSize v_place v_cabmen v_readCabmen v_acts v_seen v_seed v_bestCleaning v_bestLayers v_bestMany v_underMany v_underLeast v_restMany v_restFirst v_layer v_cabman r.2.1 r.2.2)) hr) hP hD hS d_PM_does_53
    · have hf := o_pos c1 hf
      refine lv_aload_n hx hb d_PM_does_14 rfl (lv_at hl 2 rfl) ?_
      refine lv_aload_n hx hb d_PM_does_15 rfl (lv_at hl 2 rfl) ?_
      refine gf_PM_28 hC hP 0 rfl rfl d_PM_does_16 ?_
      obtain ⟨r10, h11, hf⟩ := o_bind hf
      refine cVv (rest := []) (wr := []) (wn := (cs_PM_does cI cZ a_p0 a_layer a_cabman a_trial a_shows z_text z_readLayer z_readCabman z_page z_book z_kept z_isKept z_seenCabman z_seenFinger z_seenOff z_seenCame z_value v_thrown v_textSize v_place v_cabmen v_readCabmen v_acts v_seen v_seed v_bestCleaning v_bestLayers v_bestMany v_underMany v_underLeast v_restMany v_restFirst v_layer v_cabman r10.2 r10.1)) (c_PM_goNight l D cI cZ a_p0 a_layer a_cabman a_shows a_trial z_text z_readLayer z_readCabman z_page a_trial z_book z_kept z_isKept z_seenCabman z_seenFinger z_seenOff z_seenCame z_value v_thrown v_textSize v_place v_cabmen v_readCabmen v_acts v_seen v_seed v_bestCleaning v_bestLayers v_bestMany v_underMany v_underLeast v_restMany v_restFirst v_layer v_cabman v_shows v_trial r10 h11) hC hA hP hD hS hl.1 cw_PM_145 0 rfl rfl rfl ⟨Nat.le_of_ble_eq_true rfl, Nat.le_of_ble_eq_true rfl⟩ rfl rfl (Nat.le_of_ble_eq_true rfl) d_PM_does_19 ⟨Nat.zero_le _, Nat.zero_le _⟩ [0, 1, 2, 4, 3] [] [0, 1, 2, 4, 3] (by decide) (Cut_mk rfl rfl (by decide) (by decide) (by decide) rfl) (fun H locs hP hD hS => ?_)
      refine lv_iconst (v := 1) hx hb d_PM_does_22 (by decide) ?_
      have hr := Option.some.inj hf
      exact RET _ _ _ _ _ _ rfl (congrArg (fun r : Int32 × (Nat → Int32) × (Nat → Int32) => r.1) hr) (congrArg (fun r : Int32 × (Nat → Int32) × (Nat → Int32) => (cs_PM_does cI cZ a_p0 a_layer a_cabman a_trial a_shows z_text z_readLayer z_readCabman z_page z_book z_kept z_isKept z_seenCabman z_seenFinger z_seenOff z_seenCame z_value v_thrown v_textSize v_place v_cabmen v_readCabmen v_acts v_seen v_seed v_bestCleaning v_bestLayers v_bestMany v_underMany v_underLeast v_restMany v_restFirst v_layer v_cabman r.2.1 r.2.2)) hr) hP hD hS d_PM_does_23
  exact E _ _ hP hS
set_option maxHeartbeats 4000000 in
set_option maxRecDepth 100000 in
theorem c_PM_judge (l : Launch) (D : va_G) (cI cZ : ClassId) (a_p0 a_layer a_cabman a_page a_trial a_shows z_text z_readLayer z_readCabman z_book z_kept z_isKept z_seenCabman z_seenFinger z_seenOff z_seenCame z_value : Nat) (i1 : Int32) (i2 : Int32) (v_thrown : Int32) (v_textSize : Int32) (v_place : Int32) (v_cabmen : Int32) (v_readCabmen : Int32) (v_acts : Int32) (v_seen : Int32) (v_seed : Int64) (v_bestCleaning : Int32) (v_bestLayers : Int32) (v_bestMany : Int32) (v_underMany : Int32) (v_underLeast : Int32) (v_restMany : Int32) (v_restFirst : Int32) (v_layer : Nat → Int32) (v_cabman : Nat → Int32) (v_page : Nat → Int32) (v_trial : Nat → Int32) (v_shows : Nat → Int32) (res : Int32 × Int32 × (Nat → Int32) × (Nat → Int32)) (hf : f_PM_judge i1 i2 v_cabmen v_layer v_cabman v_page v_thrown v_trial v_shows = some res) : CtI l y_PM_judge b_PM_judge 4 (some .int) 5 D cI cZ [.ref a_p0, .int i1, .int i2] (cs_PM_judge cI cZ a_p0 a_layer a_cabman a_page a_trial a_shows z_text z_readLayer z_readCabman z_book z_kept z_isKept z_seenCabman z_seenFinger z_seenOff z_seenCame z_value v_thrown v_textSize v_place v_cabmen v_readCabmen v_acts v_seen v_seed v_bestCleaning v_bestLayers v_bestMany v_underMany v_underLeast v_restMany v_restFirst v_layer v_cabman v_page v_trial v_shows) res.1 (cs_PM_judge cI cZ a_p0 a_layer a_cabman a_page a_trial a_shows z_text z_readLayer z_readCabman z_book z_kept z_isKept z_seenCabman z_seenFinger z_seenOff z_seenCame z_value res.2.1 v_textSize v_place v_cabmen v_readCabmen v_acts v_seen v_seed v_bestCleaning v_bestLayers v_bestMany v_underMany v_underLeast v_restMany v_restFirst v_layer v_cabman v_page res.2.2.1 res.2.2.2) := by
  refine CtI_mk (by decide) (Nat.le_of_ble_eq_true rfl) ?_
  intro p e s m args below meth c A Q hC hA hP hD RET ls hl
  have hC : Cx p s m args meth c b_PM_judge 4 R_PM D cI cZ := hC
  have hl : lv_has ls 4 [(0, .ref a_p0), (1, .int i1), (2, .int i2)] := hl
  obtain ⟨hx, hb, hml, hown, hts, hlk, hKK⟩ := id hC
  have hS : va_S A s.heap s.heap [] := va_S.rf
  have B_35 : ∀  (v_thrown : Int32) (v_trial : Nat → Int32) (v_shows : Nat → Int32) (H : Heap) (locs : List Loc) (ls : Array Slot), va_P D classes (cs_PM_judge cI cZ a_p0 a_layer a_cabman a_page a_trial a_shows z_text z_readLayer z_readCabman z_book z_kept z_isKept z_seenCabman z_seenFinger z_seenOff z_seenCame z_value v_thrown v_textSize v_place v_cabmen v_readCabmen v_acts v_seen v_seed v_bestCleaning v_bestLayers v_bestMany v_underMany v_underLeast v_restMany v_restFirst v_layer v_cabman v_page v_trial v_shows) H → va_D A (cs_PM_judge cI cZ a_p0 a_layer a_cabman a_page a_trial a_shows z_text z_readLayer z_readCabman z_book z_kept z_isKept z_seenCabman z_seenFinger z_seenOff z_seenCame z_value v_thrown v_textSize v_place v_cabmen v_readCabmen v_acts v_seen v_seed v_bestCleaning v_bestLayers v_bestMany v_underMany v_underLeast v_restMany v_restFirst v_layer v_cabman v_page v_trial v_shows) → va_S A s.heap H locs → lv_has ls 4 [] → f_PM_judge_35  v_cabmen v_layer v_cabman v_page v_thrown v_trial v_shows = some res → W p l e (rm_ 5 (40 * 5)) s m args below meth c H locs 0 0 Q (F0 m 35 ls []) := by
    intro  v_thrown v_trial v_shows H locs ls hP hD hS hl hf
    unfold f_PM_judge_35 at hf
    refine lv_bipush (v := (-2)) hx hb d_PM_judge_35 (by decide) ?_
    have hr := Option.some.inj hf
    exact RET _ _ _ _ _ _ rfl (congrArg (fun r : Int32 × Int32 × (Nat → Int32) × (Nat → Int32) => r.1) hr) (congrArg (fun r : Int32 × Int32 × (Nat → Int32) × (Nat → Int32) => (cs_PM_judge cI cZ a_p0 a_layer a_cabman a_page a_trial a_shows z_text z_readLayer z_readCabman z_book z_kept z_isKept z_seenCabman z_seenFinger z_seenOff z_seenCame z_value r.2.1 v_textSize v_place v_cabmen v_readCabmen v_acts v_seen v_seed v_bestCleaning v_bestLayers v_bestMany v_underMany v_underLeast v_restMany v_restFirst v_layer v_cabman v_page r.2.2.1 r.2.2.2)) hr) hP hD hS d_PM_judge_37
  have B_44 : ∀  (n : Nat) (x1 : Int32) (x2 : Int32) (x3 : Int32) (v_thrown : Int32) (v_trial : Nat → Int32) (v_shows : Nat → Int32) (H : Heap) (locs : List Loc) (ls : Array Slot), va_P D classes (cs_PM_judge cI cZ a_p0 a_layer a_cabman a_page a_trial a_shows z_text z_readLayer z_readCabman z_book z_kept z_isKept z_seenCabman z_seenFinger z_seenOff z_seenCame z_value v_thrown v_textSize v_place v_cabmen v_readCabmen v_acts v_seen v_seed v_bestCleaning v_bestLayers v_bestMany v_underMany v_underLeast v_restMany v_restFirst v_layer v_cabman v_page v_trial v_shows) H → va_D A (cs_PM_judge cI cZ a_p0 a_layer a_cabman a_page a_trial a_shows z_text z_readLayer z_readCabman z_book z_kept z_isKept z_seenCabman z_seenFinger z_seenOff z_seenCame z_value v_thrown v_textSize v_place v_cabmen v_readCabmen v_acts v_seen v_seed v_bestCleaning v_bestLayers v_bestMany v_underMany v_underLeast v_restMany v_restFirst v_layer v_cabman v_page v_trial v_shows) → va_S A s.heap H locs → lv_has ls 4 [(0, .ref a_p0), (1, .int x1), (2, .int x2), (3, .int x3)] → f_PM_judge_44  v_cabmen v_layer v_cabman v_page n x1 x2 x3 v_thrown v_trial v_shows = some res → W p l e (rm_ 5 (40 * 5)) s m args below meth c H locs 0 0 Q (F0 m 44 ls []) := by
    intro  n
    induction n with
    | zero => intro x1 x2 x3 v_thrown v_trial v_shows H locs ls hP hD hS hl hf; exact nomatch hf
    | succ n ih =>
      intro x1 x2 x3 v_thrown v_trial v_shows H locs ls hP hD hS hl hf
      have hf : f_PM_judge_44_b  (f_PM_judge_44  v_cabmen v_layer v_cabman v_page n) v_cabmen v_layer v_cabman v_page x1 x2 x3 v_thrown v_trial v_shows = some res := hf
      generalize f_PM_judge_44  v_cabmen v_layer v_cabman v_page n = back_44 at ih hf
      have K_44 := ih
      unfold f_PM_judge_44_b at hf
      refine lv_iload_n hx hb d_PM_judge_44 rfl (lv_at hl 3 rfl) ?_
      refine lv_iload_n hx hb d_PM_judge_45 rfl (lv_at hl 1 rfl) ?_
      refine lv_icmp_ge (tgt := 79) hx hb d_PM_judge_46 (by decide) (fun c1 => ?_) (fun c1 => ?_)
      · have hf := o_pos c1 hf
        refine lv_bipush (v := (-9)) hx hb d_PM_judge_79 (by decide) ?_
        have hr := Option.some.inj hf
        exact RET _ _ _ _ _ _ rfl (congrArg (fun r : Int32 × Int32 × (Nat → Int32) × (Nat → Int32) => r.1) hr) (congrArg (fun r : Int32 × Int32 × (Nat → Int32) × (Nat → Int32) => (cs_PM_judge cI cZ a_p0 a_layer a_cabman a_page a_trial a_shows z_text z_readLayer z_readCabman z_book z_kept z_isKept z_seenCabman z_seenFinger z_seenOff z_seenCame z_value r.2.1 v_textSize v_place v_cabmen v_readCabmen v_acts v_seen v_seed v_bestCleaning v_bestLayers v_bestMany v_underMany v_underLeast v_restMany v_restFirst v_layer v_cabman v_page r.2.2.1 r.2.2.2)) hr) hP hD hS d_PM_judge_81
      · have hf := o_neg c1 hf
        refine lv_aload_n hx hb d_PM_judge_49 rfl (lv_at hl 0 rfl) ?_
        refine lv_iload_n hx hb d_PM_judge_50 rfl (lv_at hl 2 rfl) ?_
        refine lv_bipush (v := 100) hx hb d_PM_judge_51 (by decide) ?_
        refine lv_iload_n hx hb d_PM_judge_53 rfl (lv_at hl 1 rfl) ?_
        refine lv_iconst (v := 1) hx hb d_PM_judge_54 (by decide) ?_
        refine lv_isub hx hb d_PM_judge_55 ?_
        refine lv_iload_n hx hb d_PM_judge_56 rfl (lv_at hl 3 rfl) ?_
        refine lv_isub hx hb d_PM_judge_57 ?_
        obtain ⟨r2, h3, hf⟩ := o_bind hf
        refine cSi0 (rest := [.int x2, .ref a_p0]) (c_PM_power l D cI cZ 100 ((x1 - 1) - x3) r2 h3) hC hA hP hD hS hl.1 cw_PM_150 ⟨Nat.le_of_ble_eq_true rfl, Nat.le_of_ble_eq_true rfl⟩ rfl rfl (Nat.le_of_ble_eq_true rfl) d_PM_judge_58 ⟨Nat.zero_le _, Nat.zero_le _⟩ (fun H locs hP hS => ?_)
        obtain ⟨h4, hf⟩ := o_itn hf
        refine lv_idiv hx hb d_PM_judge_61 h4 ?_
        refine lv_bipush (v := 100) hx hb d_PM_judge_62 (by decide) ?_
        refine lv_irem hx hb d_PM_judge_64 (by decide) ?_
        obtain ⟨r5, h6, hf⟩ := o_bind hf
        refine cVi (rest := []) (wr := [(a_page, .inl (cI, 16, .inl v_page))]) (wn := (cs_PM_judge cI cZ a_p0 a_layer a_cabman a_page a_trial a_shows z_text z_readLayer z_readCabman z_book z_kept z_isKept z_seenCabman z_seenFinger z_seenOff z_seenCame z_value v_thrown v_textSize v_place v_cabmen v_readCabmen v_acts v_seen v_seed v_bestCleaning v_bestLayers v_bestMany v_underMany v_underLeast v_restMany v_restFirst v_layer v_cabman v_page r5.2.1 r5.2.2)) (c_PM_does l D cI cZ a_p0 a_layer a_cabman a_trial a_shows z_text z_readLayer z_readCabman a_page z_book z_kept z_isKept z_seenCabman z_seenFinger z_seenOff z_seenCame z_value (rmI (x2 / r2) 100) v_thrown v_textSize v_place v_cabmen v_readCabmen v_acts v_seen v_seed v_bestCleaning v_bestLayers v_bestMany v_underMany v_underLeast v_restMany v_restFirst v_layer v_cabman v_trial v_shows r5 h6) hC hA hP hD hS hl.1 cw_PM_188 0 rfl rfl rfl ⟨Nat.le_of_ble_eq_true rfl, Nat.le_of_ble_eq_true rfl⟩ rfl rfl (Nat.le_of_ble_eq_true rfl) d_PM_judge_65 ⟨Nat.zero_le _, Nat.zero_le _⟩ [0, 1, 2, 4, 5] [3] [1, 2, 3, 0, 4, 5] (by decide) (Cut_mk rfl rfl (by decide) (by decide) (by decide) rfl) (fun H locs hP hD hS => ?_)
        refine lv_if_ne (tgt := 73) hx hb d_PM_judge_68 (by decide) (fun c7 => ?_) (fun c7 => ?_)
        · have hf := o_neg c7 hf
          refine lv_iinc (v := x3 + 1) (lv' := [(3, .int (x3 + 1)), (0, .ref a_p0), (1, .int x1), (2, .int x2)]) hx hb d_PM_judge_73 hl (k := 3) rfl (rfl) (by decide) rfl (fun ls hl => ?_)
          refine lv_goto (tgt := 44) hx hb d_PM_judge_76 (by decide) ?_
          exact K_44 x1 x2 (x3 + 1) v_thrown r5.2.1 r5.2.2 _ _ _ hP hD hS (lv_sub hl [1, 2, 3, 0] rfl) hf
        · have hf := o_pos c7 hf
          refine lv_iload_n hx hb d_PM_judge_71 rfl (lv_at hl 3 rfl) ?_
          have hr := Option.some.inj hf
          exact RET _ _ _ _ _ _ rfl (congrArg (fun r : Int32 × Int32 × (Nat → Int32) × (Nat → Int32) => r.1) hr) (congrArg (fun r : Int32 × Int32 × (Nat → Int32) × (Nat → Int32) => (cs_PM_judge cI cZ a_p0 a_layer a_cabman a_page a_trial a_shows z_text z_readLayer z_readCabman z_book z_kept z_isKept z_seenCabman z_seenFinger z_seenOff z_seenCame z_value r.2.1 v_textSize v_place v_cabmen v_readCabmen v_acts v_seen v_seed v_bestCleaning v_bestLayers v_bestMany v_underMany v_underLeast v_restMany v_restFirst v_layer v_cabman v_page r.2.2.1 r.2.2.2)) hr) hP hD hS d_PM_judge_72
  unfold f_PM_judge at hf
  have E : ∀ (H : Heap) (locs : List Loc), va_P D classes (cs_PM_judge cI cZ a_p0 a_layer a_cabman a_page a_trial a_shows z_text z_readLayer z_readCabman z_book z_kept z_isKept z_seenCabman z_seenFinger z_seenOff z_seenCame z_value v_thrown v_textSize v_place v_cabmen v_readCabmen v_acts v_seen v_seed v_bestCleaning v_bestLayers v_bestMany v_underMany v_underLeast v_restMany v_restFirst v_layer v_cabman v_page v_trial v_shows) H → va_S A s.heap H locs → W p l e (rm_ 5 (40 * 5)) s m args below meth c H locs 0 0 Q (F0 m 0 ls []) := by
    intro H locs hP hS
    refine lv_aload_n hx hb d_PM_judge_0 rfl (lv_at hl 0 rfl) ?_
    refine lv_iconst (v := 0) hx hb d_PM_judge_1 (by decide) ?_
    refine pf_PM_59 hC hP hD hS 0 rfl (Nat.le_of_ble_eq_true rfl) d_PM_judge_2 (fun H locs hP hD hS => ?_)
    have hP : va_P D classes (cs_PM_judge cI cZ a_p0 a_layer a_cabman a_page a_trial a_shows z_text z_readLayer z_readCabman z_book z_kept z_isKept z_seenCabman z_seenFinger z_seenOff z_seenCame z_value 0 v_textSize v_place v_cabmen v_readCabmen v_acts v_seen v_seed v_bestCleaning v_bestLayers v_bestMany v_underMany v_underLeast v_restMany v_restFirst v_layer v_cabman v_page v_trial v_shows) H := hP
    have hD : va_D A (cs_PM_judge cI cZ a_p0 a_layer a_cabman a_page a_trial a_shows z_text z_readLayer z_readCabman z_book z_kept z_isKept z_seenCabman z_seenFinger z_seenOff z_seenCame z_value 0 v_textSize v_place v_cabmen v_readCabmen v_acts v_seen v_seed v_bestCleaning v_bestLayers v_bestMany v_underMany v_underLeast v_restMany v_restFirst v_layer v_cabman v_page v_trial v_shows) := hD
    refine lv_iload_n hx hb d_PM_judge_5 rfl (lv_at hl 1 rfl) ?_
    refine lv_i2l (v := Int32.toInt64 i1) hx hb d_PM_judge_6 rfl ?_
    refine lv_lconst (v := 1) hx hb d_PM_judge_7 (by decide) ?_
    refine lv_ldc2 (v := 4) hx hb hown (hts _ g773) d_PM_judge_8 ?_
    obtain ⟨r1, h2, hf⟩ := o_bind hf
    refine cSi0 (rest := []) (c_PM_in l D cI cZ (Int32.toInt64 i1) 1 4 r1 h2) hC hA hP hD hS hl.1 cw_PM_66 ⟨Nat.le_of_ble_eq_true rfl, Nat.le_of_ble_eq_true rfl⟩ rfl rfl (Nat.le_of_ble_eq_true rfl) d_PM_judge_11 ⟨Nat.zero_le _, Nat.zero_le _⟩ (fun H locs hP hS => ?_)
    refine lv_if_eq (tgt := 35) hx hb d_PM_judge_14 (by decide) (fun c3 => ?_) (fun c3 => ?_)
    · have hf := o_pos c3 hf
      exact B_35 0 v_trial v_shows _ _ _ hP hD hS (lv_sub hl [] rfl) hf
    · have hf := o_neg c3 hf
      refine lv_iload_n hx hb d_PM_judge_17 rfl (lv_at hl 2 rfl) ?_
      refine lv_i2l (v := Int32.toInt64 i2) hx hb d_PM_judge_18 rfl ?_
      refine lv_lconst (v := 0) hx hb d_PM_judge_19 (by decide) ?_
      refine lv_bipush (v := 100) hx hb d_PM_judge_20 (by decide) ?_
      refine lv_iload_n hx hb d_PM_judge_22 rfl (lv_at hl 1 rfl) ?_
      obtain ⟨r4, h5, hf⟩ := o_bind hf
      refine cSi0 (rest := [.long 0, .long (Int32.toInt64 i2)]) (c_PM_power l D cI cZ 100 i1 r4 h5) hC hA hP hD hS hl.1 cw_PM_150 ⟨Nat.le_of_ble_eq_true rfl, Nat.le_of_ble_eq_true rfl⟩ rfl rfl (Nat.le_of_ble_eq_true rfl) d_PM_judge_23 ⟨Nat.zero_le _, Nat.zero_le _⟩ (fun H locs hP hS => ?_)
      refine lv_iconst (v := 1) hx hb d_PM_judge_26 (by decide) ?_
      refine lv_isub hx hb d_PM_judge_27 ?_
      refine lv_i2l (v := Int32.toInt64 (r4 - 1)) hx hb d_PM_judge_28 rfl ?_
      obtain ⟨r6, h7, hf⟩ := o_bind hf
      refine cSi0 (rest := []) (c_PM_in l D cI cZ (Int32.toInt64 i2) 0 (Int32.toInt64 (r4 - 1)) r6 h7) hC hA hP hD hS hl.1 cw_PM_66 ⟨Nat.le_of_ble_eq_true rfl, Nat.le_of_ble_eq_true rfl⟩ rfl rfl (Nat.le_of_ble_eq_true rfl) d_PM_judge_29 ⟨Nat.zero_le _, Nat.zero_le _⟩ (fun H locs hP hS => ?_)
      refine lv_if_ne (tgt := 38) hx hb d_PM_judge_32 (by decide) (fun c8 => ?_) (fun c8 => ?_)
      · have hf := o_neg c8 hf
        refine lv_aload_n hx hb d_PM_judge_38 rfl (lv_at hl 0 rfl) ?_
        obtain ⟨r9, h10, hf⟩ := o_bind hf
        refine cVv (rest := []) (wr := [(a_layer, .inl (cI, 12, .inl v_layer)), (a_cabman, .inl (cI, 30, .inl v_cabman)), (a_shows, .inl (cI, 4, .inl v_shows))]) (wn := (cs_PM_judge cI cZ a_p0 a_layer a_cabman a_page a_trial a_shows z_text z_readLayer z_readCabman z_book z_kept z_isKept z_seenCabman z_seenFinger z_seenOff z_seenCame z_value 0 v_textSize v_place v_cabmen v_readCabmen v_acts v_seen v_seed v_bestCleaning v_bestLayers v_bestMany v_underMany v_underLeast v_restMany v_restFirst v_layer v_cabman v_page r9 v_shows)) (c_PM_begin l D cI cZ a_p0 a_page a_trial z_text a_layer a_cabman z_readLayer z_readCabman z_book z_kept z_isKept z_seenCabman z_seenFinger z_seenOff z_seenCame z_value a_shows 0 v_textSize v_place v_cabmen v_readCabmen v_acts v_seen v_seed v_bestCleaning v_bestLayers v_bestMany v_underMany v_underLeast v_restMany v_restFirst v_page v_trial r9 h10) hC hA hP hD hS hl.1 cw_PM_181 0 rfl rfl rfl ⟨Nat.le_of_ble_eq_true rfl, Nat.le_of_ble_eq_true rfl⟩ rfl rfl (Nat.le_of_ble_eq_true rfl) d_PM_judge_39 ⟨Nat.zero_le _, Nat.zero_le _⟩ [0, 3, 4] [1, 2, 5] [3, 0, 1, 4, 5, 2] (by decide) (Cut_mk rfl rfl (by decide) (by decide) (by decide) rfl) (fun H locs hP hD hS => ?_)
        refine lv_iconst (v := 0) hx hb d_PM_judge_42 (by decide) ?_
        refine lv_istore_n (lv' := [(3, .int 0), (0, .ref a_p0), (1, .int i1), (2, .int i2)]) hx hb d_PM_judge_43 rfl hl (by decide) rfl (fun ls hl => ?_)
        exact B_44 300 i1 i2 0 0 r9 v_shows _ _ _ hP hD hS (lv_sub hl [1, 2, 3, 0] rfl) hf
      · have hf := o_pos c8 hf
        exact B_35 0 v_trial v_shows _ _ _ hP hD hS (lv_sub hl [] rfl) hf
  exact E _ _ hP hS
set_option maxHeartbeats 4000000 in
set_option maxRecDepth 100000 in
theorem c_PM_ways (l : Launch) (D : va_G) (cI cZ : ClassId) (i0 : Int32) (res : Int32) (hf : f_PM_ways i0 = some res) : CtI l y_PM_ways b_PM_ways 3 (some .int) 0 D cI cZ [.int i0] [] res [] := by
  refine CtI_mk (by decide) (Nat.le_of_ble_eq_true rfl) ?_
  intro p e s m args below meth c A Q hC hA hP hD RET ls hl
  have hC : Cx p s m args meth c b_PM_ways 3 R_PM D cI cZ := hC
  have hl : lv_has ls 3 [(0, .int i0)] := hl
  obtain ⟨hx, hb, hml, hown, hts, hlk, hKK⟩ := id hC
  have hS : va_S A s.heap s.heap [] := va_S.rf
  have B_4 : ∀  (n : Nat) (x0 : Int32) (x1 : Int32) (x2 : Int32) (H : Heap) (locs : List Loc) (ls : Array Slot), va_P D classes [] H → va_D A [] → va_S A s.heap H locs → lv_has ls 3 [(0, .int x0), (1, .int x1), (2, .int x2)] → f_PM_ways_4   n x0 x1 x2 = some res → W p l e (rm_ 0 (40 * 0)) s m args below meth c H locs 0 0 Q (F0 m 4 ls []) := by
    intro  n
    induction n with
    | zero => intro x0 x1 x2 H locs ls hP hD hS hl hf; exact nomatch hf
    | succ n ih =>
      intro x0 x1 x2 H locs ls hP hD hS hl hf
      have hf : f_PM_ways_4_b  (f_PM_ways_4   n)  x0 x1 x2 = some res := hf
      generalize f_PM_ways_4   n = back_4 at ih hf
      have K_4 := ih
      unfold f_PM_ways_4_b at hf
      refine lv_iload_n hx hb d_PM_ways_4 rfl (lv_at hl 2 rfl) ?_
      refine lv_iload_n hx hb d_PM_ways_5 rfl (lv_at hl 0 rfl) ?_
      refine lv_icmp_gt (tgt := 19) hx hb d_PM_ways_6 (by decide) (fun c1 => ?_) (fun c1 => ?_)
      · have hf := o_pos c1 hf
        refine lv_iload_n hx hb d_PM_ways_19 rfl (lv_at hl 1 rfl) ?_
        have hr := Option.some.inj hf
        exact RET _ _ _ _ _ _ rfl (congrArg (fun r : Int32 => r) hr) rfl hP hD hS d_PM_ways_20
      · have hf := o_neg c1 hf
        refine lv_iload_n hx hb d_PM_ways_9 rfl (lv_at hl 1 rfl) ?_
        refine lv_iload_n hx hb d_PM_ways_10 rfl (lv_at hl 2 rfl) ?_
        refine lv_imul hx hb d_PM_ways_11 ?_
        refine lv_istore_n (lv' := [(1, .int (x1 * x2)), (0, .int x0), (2, .int x2)]) hx hb d_PM_ways_12 rfl hl (by decide) rfl (fun ls hl => ?_)
        refine lv_iinc (v := x2 + 1) (lv' := [(2, .int (x2 + 1)), (1, .int (x1 * x2)), (0, .int x0)]) hx hb d_PM_ways_13 hl (k := 2) rfl (rfl) (by decide) rfl (fun ls hl => ?_)
        refine lv_goto (tgt := 4) hx hb d_PM_ways_16 (by decide) ?_
        exact K_4 x0 (x1 * x2) (x2 + 1) _ _ _ hP hD hS (lv_sub hl [2, 1, 0] rfl) hf
  unfold f_PM_ways at hf
  have E : ∀ (H : Heap) (locs : List Loc), va_P D classes [] H → va_S A s.heap H locs → W p l e (rm_ 0 (40 * 0)) s m args below meth c H locs 0 0 Q (F0 m 0 ls []) := by
    intro H locs hP hS
    refine lv_iconst (v := 1) hx hb d_PM_ways_0 (by decide) ?_
    refine lv_istore_n (lv' := [(1, .int 1), (0, .int i0)]) hx hb d_PM_ways_1 rfl hl (by decide) rfl (fun ls hl => ?_)
    refine lv_iconst (v := 2) hx hb d_PM_ways_2 (by decide) ?_
    refine lv_istore_n (lv' := [(2, .int 2), (1, .int 1), (0, .int i0)]) hx hb d_PM_ways_3 rfl hl (by decide) rfl (fun ls hl => ?_)
    exact B_4 300 i0 1 2 _ _ _ hP hD hS (lv_sub hl [2, 1, 0] rfl) hf
  exact E _ _ hP hS
set_option maxHeartbeats 4000000 in
set_option maxRecDepth 100000 in
theorem c_PM_divisor (l : Launch) (D : va_G) (cI cZ : ClassId) (i0 : Int32) (i1 : Int32) (res : Int32) (hf : f_PM_divisor i0 i1 = some res) : CtI l y_PM_divisor b_PM_divisor 5 (some .int) 0 D cI cZ [.int i0, .int i1] [] res [] := by
  refine CtI_mk (by decide) (Nat.le_of_ble_eq_true rfl) ?_
  intro p e s m args below meth c A Q hC hA hP hD RET ls hl
  have hC : Cx p s m args meth c b_PM_divisor 5 R_PM D cI cZ := hC
  have hl : lv_has ls 5 [(0, .int i0), (1, .int i1)] := hl
  obtain ⟨hx, hb, hml, hown, hts, hlk, hKK⟩ := id hC
  have hS : va_S A s.heap s.heap [] := va_S.rf
  have B_13 : ∀  (n : Nat) (x2 : Int32) (x3 : Int32) (H : Heap) (locs : List Loc) (ls : Array Slot), va_P D classes [] H → va_D A [] → va_S A s.heap H locs → lv_has ls 5 [(2, .int x2), (3, .int x3)] → f_PM_divisor_13   n x2 x3 = some res → W p l e (rm_ 0 (40 * 0)) s m args below meth c H locs 0 0 Q (F0 m 13 ls []) := by
    intro  n
    induction n with
    | zero => intro x2 x3 H locs ls hP hD hS hl hf; exact nomatch hf
    | succ n ih =>
      intro x2 x3 H locs ls hP hD hS hl hf
      have hf : f_PM_divisor_13_b  (f_PM_divisor_13   n)  x2 x3 = some res := hf
      generalize f_PM_divisor_13   n = back_13 at ih hf
      have K_13 := ih
      unfold f_PM_divisor_13_b at hf
      refine lv_iload_n hx hb d_PM_divisor_13 rfl (lv_at hl 1 rfl) ?_
      refine lv_if_eq (tgt := 30) hx hb d_PM_divisor_14 (by decide) (fun c1 => ?_) (fun c1 => ?_)
      · have hf := o_pos c1 hf
        refine lv_iload_n hx hb d_PM_divisor_30 rfl (lv_at hl 0 rfl) ?_
        have hr := Option.some.inj hf
        exact RET _ _ _ _ _ _ rfl (congrArg (fun r : Int32 => r) hr) rfl hP hD hS d_PM_divisor_31
      · have hf := o_neg c1 hf
        refine lv_iload_n hx hb d_PM_divisor_17 rfl (lv_at hl 0 rfl) ?_
        refine lv_iload_n hx hb d_PM_divisor_18 rfl (lv_at hl 1 rfl) ?_
        obtain ⟨h2, hf⟩ := o_itn hf
        refine lv_irem hx hb d_PM_divisor_19 h2 ?_
        refine lv_istore (lv' := [(4, .int (rmI x2 x3)), (2, .int x2), (3, .int x3)]) hx hb d_PM_divisor_20 hl (by decide) rfl (fun ls hl => ?_)
        refine lv_iload_n hx hb d_PM_divisor_22 rfl (lv_at hl 2 rfl) ?_
        refine lv_istore_n (lv' := [(2, .int x3), (4, .int (rmI x2 x3)), (3, .int x3)]) hx hb d_PM_divisor_23 rfl hl (by decide) rfl (fun ls hl => ?_)
        refine lv_iload hx hb d_PM_divisor_24 (lv_at hl 1 rfl) ?_
        refine lv_istore_n (lv' := [(3, .int (rmI x2 x3)), (2, .int x3), (4, .int (rmI x2 x3))]) hx hb d_PM_divisor_26 rfl hl (by decide) rfl (fun ls hl => ?_)
        refine lv_goto (tgt := 13) hx hb d_PM_divisor_27 (by decide) ?_
        exact K_13 x3 (rmI x2 x3) _ _ _ hP hD hS (lv_sub hl [1, 0] rfl) hf
  have B_10 : ∀  (x1 : Int32) (w0 : Int32) (H : Heap) (locs : List Loc) (ls : Array Slot), va_P D classes [] H → va_D A [] → va_S A s.heap H locs → lv_has ls 5 [(1, .int x1)] → f_PM_divisor_10   x1 w0 = some res → W p l e (rm_ 0 (40 * 0)) s m args below meth c H locs 0 0 Q (F0 m 10 ls [.int w0]) := by
    intro  x1 w0 H locs ls hP hD hS hl hf
    unfold f_PM_divisor_10 at hf
    refine lv_istore_n (lv' := [(2, .int w0), (1, .int x1)]) hx hb d_PM_divisor_10 rfl hl (by decide) rfl (fun ls hl => ?_)
    refine lv_iload_n hx hb d_PM_divisor_11 rfl (lv_at hl 1 rfl) ?_
    refine lv_istore_n (lv' := [(3, .int x1), (2, .int w0), (1, .int x1)]) hx hb d_PM_divisor_12 rfl hl (by decide) rfl (fun ls hl => ?_)
    exact B_13 300 w0 x1 _ _ _ hP hD hS (lv_sub hl [1, 0] rfl) hf
  unfold f_PM_divisor at hf
  have E : ∀ (H : Heap) (locs : List Loc), va_P D classes [] H → va_S A s.heap H locs → W p l e (rm_ 0 (40 * 0)) s m args below meth c H locs 0 0 Q (F0 m 0 ls []) := by
    intro H locs hP hS
    refine lv_iload_n hx hb d_PM_divisor_0 rfl (lv_at hl 0 rfl) ?_
    refine lv_if_ge (tgt := 9) hx hb d_PM_divisor_1 (by decide) (fun c1 => ?_) (fun c1 => ?_)
    · have hf := o_pos c1 hf
      refine lv_iload_n hx hb d_PM_divisor_9 rfl (lv_at hl 0 rfl) ?_
      exact B_10 i1 i0 _ _ _ hP hD hS (lv_sub hl [1] rfl) hf
    · have hf := o_neg c1 hf
      refine lv_iload_n hx hb d_PM_divisor_4 rfl (lv_at hl 0 rfl) ?_
      refine lv_ineg hx hb d_PM_divisor_5 ?_
      refine lv_goto (tgt := 10) hx hb d_PM_divisor_6 (by decide) ?_
      exact B_10 i1 (-i0) _ _ _ hP hD hS (lv_sub hl [1] rfl) hf
  exact E _ _ hP hS
set_option maxHeartbeats 4000000 in
set_option maxRecDepth 100000 in
theorem c_PM_fraction (l : Launch) (D : va_G) (cI cZ : ClassId) (i0 : Int32) (i1 : Int32) (i2 : Int32) (res : Int32) (hf : f_PM_fraction i0 i1 i2 = some res) : CtI l y_PM_fraction b_PM_fraction 4 (some .int) 1 D cI cZ [.int i0, .int i1, .int i2] [] res [] := by
  refine CtI_mk (by decide) (Nat.le_of_ble_eq_true rfl) ?_
  intro p e s m args below meth c A Q hC hA hP hD RET ls hl
  have hC : Cx p s m args meth c b_PM_fraction 4 R_PM D cI cZ := hC
  have hl : lv_has ls 4 [(0, .int i0), (1, .int i1), (2, .int i2)] := hl
  obtain ⟨hx, hb, hml, hown, hts, hlk, hKK⟩ := id hC
  have hS : va_S A s.heap s.heap [] := va_S.rf
  have B_19 : ∀  (w0 : Int32) (H : Heap) (locs : List Loc) (ls : Array Slot), va_P D classes [] H → va_D A [] → va_S A s.heap H locs → lv_has ls 4 [] → f_PM_fraction_19   w0 = some res → W p l e (rm_ 1 (40 * 1)) s m args below meth c H locs 0 0 Q (F0 m 19 ls [.int w0]) := by
    intro  w0 H locs ls hP hD hS hl hf
    unfold f_PM_fraction_19 at hf
    have hr := Option.some.inj hf
    exact RET _ _ _ _ _ _ rfl (congrArg (fun r : Int32 => r) hr) rfl hP hD hS d_PM_fraction_19
  unfold f_PM_fraction at hf
  have E : ∀ (H : Heap) (locs : List Loc), va_P D classes [] H → va_S A s.heap H locs → W p l e (rm_ 1 (40 * 1)) s m args below meth c H locs 0 0 Q (F0 m 0 ls []) := by
    intro H locs hP hS
    refine lv_iload_n hx hb d_PM_fraction_0 rfl (lv_at hl 0 rfl) ?_
    refine lv_iload_n hx hb d_PM_fraction_1 rfl (lv_at hl 1 rfl) ?_
    obtain ⟨r1, h2, hf⟩ := o_bind hf
    refine cSi0 (rest := []) (c_PM_divisor l D cI cZ i0 i1 r1 h2) hC hA hP hD hS hl.1 cw_PM_191 ⟨Nat.le_of_ble_eq_true rfl, Nat.le_of_ble_eq_true rfl⟩ rfl rfl (Nat.le_of_ble_eq_true rfl) d_PM_fraction_2 ⟨Nat.zero_le _, Nat.zero_le _⟩ (fun H locs hP hS => ?_)
    refine lv_istore_n (lv' := [(3, .int r1), (0, .int i0), (1, .int i1), (2, .int i2)]) hx hb d_PM_fraction_5 rfl hl (by decide) rfl (fun ls hl => ?_)
    refine lv_iload_n hx hb d_PM_fraction_6 rfl (lv_at hl 3 rfl) ?_
    refine lv_if_eq (tgt := 16) hx hb d_PM_fraction_7 (by decide) (fun c3 => ?_) (fun c3 => ?_)
    · have hf := o_pos c3 hf
      refine lv_iload_n hx hb d_PM_fraction_16 rfl (lv_at hl 2 rfl) ?_
      refine lv_iload_n hx hb d_PM_fraction_17 rfl (lv_at hl 0 rfl) ?_
      obtain ⟨h4, hf⟩ := o_itn hf
      refine lv_idiv hx hb d_PM_fraction_18 h4 ?_
      exact B_19 (i1 / r1) _ _ _ hP hD hS (lv_sub hl [] rfl) hf
    · have hf := o_neg c3 hf
      refine lv_iload_n hx hb d_PM_fraction_10 rfl (lv_at hl 1 rfl) ?_
      refine lv_iload_n hx hb d_PM_fraction_11 rfl (lv_at hl 0 rfl) ?_
      obtain ⟨h5, hf⟩ := o_itn hf
      refine lv_idiv hx hb d_PM_fraction_12 h5 ?_
      refine lv_goto (tgt := 19) hx hb d_PM_fraction_13 (by decide) ?_
      exact B_19 (i0 / r1) _ _ _ hP hD hS (lv_sub hl [] rfl) hf
  exact E _ _ hP hS
set_option maxHeartbeats 4000000 in
set_option maxRecDepth 100000 in
theorem c_PM_share (l : Launch) (D : va_G) (cI cZ : ClassId) (a_p0 a_layer a_cabman a_page a_value a_shows z_text z_readLayer z_readCabman z_trial z_book z_kept z_isKept z_seenCabman z_seenFinger z_seenOff z_seenCame : Nat) (i1 : Int32) (i2 : Int32) (v_thrown : Int32) (v_textSize : Int32) (v_place : Int32) (v_cabmen : Int32) (v_readCabmen : Int32) (v_acts : Int32) (v_seen : Int32) (v_seed : Int64) (v_bestCleaning : Int32) (v_bestLayers : Int32) (v_bestMany : Int32) (v_underMany : Int32) (v_underLeast : Int32) (v_restMany : Int32) (v_restFirst : Int32) (v_layer : Nat → Int32) (v_cabman : Nat → Int32) (v_page : Nat → Int32) (v_value : Nat → Int32) (v_shows : Nat → Int32) (res : Int32 × Int32 × (Nat → Int32) × (Nat → Int32)) (hf : f_PM_share i1 i2 v_cabmen v_layer v_cabman v_page v_thrown v_value v_shows = some res) : CtI l y_PM_share b_PM_share 6 (some .int) 3 D cI cZ [.ref a_p0, .int i1, .int i2] (cs_PM_share cI cZ a_p0 a_layer a_cabman a_page a_value a_shows z_text z_readLayer z_readCabman z_trial z_book z_kept z_isKept z_seenCabman z_seenFinger z_seenOff z_seenCame v_thrown v_textSize v_place v_cabmen v_readCabmen v_acts v_seen v_seed v_bestCleaning v_bestLayers v_bestMany v_underMany v_underLeast v_restMany v_restFirst v_layer v_cabman v_page v_value v_shows) res.1 (cs_PM_share cI cZ a_p0 a_layer a_cabman a_page a_value a_shows z_text z_readLayer z_readCabman z_trial z_book z_kept z_isKept z_seenCabman z_seenFinger z_seenOff z_seenCame res.2.1 v_textSize v_place v_cabmen v_readCabmen v_acts v_seen v_seed v_bestCleaning v_bestLayers v_bestMany v_underMany v_underLeast v_restMany v_restFirst v_layer v_cabman v_page res.2.2.1 res.2.2.2) := by
  refine CtI_mk (by decide) (Nat.le_of_ble_eq_true rfl) ?_
  intro p e s m args below meth c A Q hC hA hP hD RET ls hl
  have hC : Cx p s m args meth c b_PM_share 6 R_PM D cI cZ := hC
  have hl : lv_has ls 6 [(0, .ref a_p0), (1, .int i1), (2, .int i2)] := hl
  obtain ⟨hx, hb, hml, hown, hts, hlk, hKK⟩ := id hC
  have hS : va_S A s.heap s.heap [] := va_S.rf
  have B_114 : ∀ (back_55 : Int32 → Int32 → Int32 → Int32 → Int32 → (Nat → Int32) → (Nat → Int32) → Option (Int32 × Int32 × (Nat → Int32) × (Nat → Int32))) (K_55 : ∀ (x1 : Int32) (x2 : Int32) (x3 : Int32) (x4 : Int32) (v_thrown : Int32) (v_value : Nat → Int32) (v_shows : Nat → Int32) (H : Heap) (locs : List Loc) (ls : Array Slot), va_P D classes (cs_PM_share cI cZ a_p0 a_layer a_cabman a_page a_value a_shows z_text z_readLayer z_readCabman z_trial z_book z_kept z_isKept z_seenCabman z_seenFinger z_seenOff z_seenCame v_thrown v_textSize v_place v_cabmen v_readCabmen v_acts v_seen v_seed v_bestCleaning v_bestLayers v_bestMany v_underMany v_underLeast v_restMany v_restFirst v_layer v_cabman v_page v_value v_shows) H → va_D A (cs_PM_share cI cZ a_p0 a_layer a_cabman a_page a_value a_shows z_text z_readLayer z_readCabman z_trial z_book z_kept z_isKept z_seenCabman z_seenFinger z_seenOff z_seenCame v_thrown v_textSize v_place v_cabmen v_readCabmen v_acts v_seen v_seed v_bestCleaning v_bestLayers v_bestMany v_underMany v_underLeast v_restMany v_restFirst v_layer v_cabman v_page v_value v_shows) → va_S A s.heap H locs → lv_has ls 6 [(0, .ref a_p0), (1, .int x1), (2, .int x2), (3, .int x3), (4, .int x4)] → back_55 x1 x2 x3 x4 v_thrown v_value v_shows = some res → W p l e (rm_ 3 (40 * 3)) s m args below meth c H locs 0 0 Q (F0 m 55 ls [])) (x1 : Int32) (x2 : Int32) (x3 : Int32) (x4 : Int32) (v_thrown : Int32) (v_value : Nat → Int32) (v_shows : Nat → Int32) (H : Heap) (locs : List Loc) (ls : Array Slot), va_P D classes (cs_PM_share cI cZ a_p0 a_layer a_cabman a_page a_value a_shows z_text z_readLayer z_readCabman z_trial z_book z_kept z_isKept z_seenCabman z_seenFinger z_seenOff z_seenCame v_thrown v_textSize v_place v_cabmen v_readCabmen v_acts v_seen v_seed v_bestCleaning v_bestLayers v_bestMany v_underMany v_underLeast v_restMany v_restFirst v_layer v_cabman v_page v_value v_shows) H → va_D A (cs_PM_share cI cZ a_p0 a_layer a_cabman a_page a_value a_shows z_text z_readLayer z_readCabman z_trial z_book z_kept z_isKept z_seenCabman z_seenFinger z_seenOff z_seenCame v_thrown v_textSize v_place v_cabmen v_readCabmen v_acts v_seen v_seed v_bestCleaning v_bestLayers v_bestMany v_underMany v_underLeast v_restMany v_restFirst v_layer v_cabman v_page v_value v_shows) → va_S A s.heap H locs → lv_has ls 6 [(0, .ref a_p0), (1, .int x1), (2, .int x2), (3, .int x3), (4, .int x4)] → f_PM_share_114 back_55 v_cabmen v_layer v_cabman v_page x1 x2 x3 x4 v_thrown v_value v_shows = some res → W p l e (rm_ 3 (40 * 3)) s m args below meth c H locs 0 0 Q (F0 m 114 ls []) := by
    intro back_55 K_55 x1 x2 x3 x4 v_thrown v_value v_shows H locs ls hP hD hS hl hf
    unfold f_PM_share_114 at hf
    refine lv_iinc (v := x4 + 1) (lv' := [(4, .int (x4 + 1)), (0, .ref a_p0), (1, .int x1), (2, .int x2), (3, .int x3)]) hx hb d_PM_share_114 hl (k := 4) rfl (rfl) (by decide) rfl (fun ls hl => ?_)
    refine lv_goto (tgt := 55) hx hb d_PM_share_117 (by decide) ?_
    exact K_55 x1 x2 x3 (x4 + 1) v_thrown v_value v_shows _ _ _ hP hD hS (lv_sub hl [1, 2, 3, 4, 0] rfl) hf
  have B_55 : ∀  (n : Nat) (x1 : Int32) (x2 : Int32) (x3 : Int32) (x4 : Int32) (v_thrown : Int32) (v_value : Nat → Int32) (v_shows : Nat → Int32) (H : Heap) (locs : List Loc) (ls : Array Slot), va_P D classes (cs_PM_share cI cZ a_p0 a_layer a_cabman a_page a_value a_shows z_text z_readLayer z_readCabman z_trial z_book z_kept z_isKept z_seenCabman z_seenFinger z_seenOff z_seenCame v_thrown v_textSize v_place v_cabmen v_readCabmen v_acts v_seen v_seed v_bestCleaning v_bestLayers v_bestMany v_underMany v_underLeast v_restMany v_restFirst v_layer v_cabman v_page v_value v_shows) H → va_D A (cs_PM_share cI cZ a_p0 a_layer a_cabman a_page a_value a_shows z_text z_readLayer z_readCabman z_trial z_book z_kept z_isKept z_seenCabman z_seenFinger z_seenOff z_seenCame v_thrown v_textSize v_place v_cabmen v_readCabmen v_acts v_seen v_seed v_bestCleaning v_bestLayers v_bestMany v_underMany v_underLeast v_restMany v_restFirst v_layer v_cabman v_page v_value v_shows) → va_S A s.heap H locs → lv_has ls 6 [(0, .ref a_p0), (1, .int x1), (2, .int x2), (3, .int x3), (4, .int x4)] → f_PM_share_55  v_cabmen v_layer v_cabman v_page n x1 x2 x3 x4 v_thrown v_value v_shows = some res → W p l e (rm_ 3 (40 * 3)) s m args below meth c H locs 0 0 Q (F0 m 55 ls []) := by
    intro  n
    induction n with
    | zero => intro x1 x2 x3 x4 v_thrown v_value v_shows H locs ls hP hD hS hl hf; exact nomatch hf
    | succ n ih =>
      intro x1 x2 x3 x4 v_thrown v_value v_shows H locs ls hP hD hS hl hf
      have hf : f_PM_share_55_b  (f_PM_share_55  v_cabmen v_layer v_cabman v_page n) v_cabmen v_layer v_cabman v_page x1 x2 x3 x4 v_thrown v_value v_shows = some res := hf
      generalize f_PM_share_55  v_cabmen v_layer v_cabman v_page n = back_55 at ih hf
      have K_55 := ih
      unfold f_PM_share_55_b at hf
      refine lv_iload hx hb d_PM_share_55 (lv_at hl 4 rfl) ?_
      refine lv_bipush (v := 16) hx hb d_PM_share_57 (by decide) ?_
      refine lv_icmp_ge (tgt := 120) hx hb d_PM_share_59 (by decide) (fun c1 => ?_) (fun c1 => ?_)
      · have hf := o_pos c1 hf
        refine lv_iload_n hx hb d_PM_share_120 rfl (lv_at hl 3 rfl) ?_
        refine lv_bipush (v := 24) hx hb d_PM_share_121 (by decide) ?_
        refine lv_iload_n hx hb d_PM_share_123 rfl (lv_at hl 2 rfl) ?_
        obtain ⟨r2, h3, hf⟩ := o_bind hf
        refine cSi0 (rest := []) (c_PM_fraction l D cI cZ x3 24 x2 r2 h3) hC hA hP hD hS hl.1 cw_PM_197 ⟨Nat.le_of_ble_eq_true rfl, Nat.le_of_ble_eq_true rfl⟩ rfl rfl (Nat.le_of_ble_eq_true rfl) d_PM_share_124 ⟨Nat.zero_le _, Nat.zero_le _⟩ (fun H locs hP hS => ?_)
        have hr := Option.some.inj hf
        exact RET _ _ _ _ _ _ rfl (congrArg (fun r : Int32 × Int32 × (Nat → Int32) × (Nat → Int32) => r.1) hr) (congrArg (fun r : Int32 × Int32 × (Nat → Int32) × (Nat → Int32) => (cs_PM_share cI cZ a_p0 a_layer a_cabman a_page a_value a_shows z_text z_readLayer z_readCabman z_trial z_book z_kept z_isKept z_seenCabman z_seenFinger z_seenOff z_seenCame r.2.1 v_textSize v_place v_cabmen v_readCabmen v_acts v_seen v_seed v_bestCleaning v_bestLayers v_bestMany v_underMany v_underLeast v_restMany v_restFirst v_layer v_cabman v_page r.2.2.1 r.2.2.2)) hr) hP hD hS d_PM_share_127
      · have hf := o_neg c1 hf
        refine lv_iload hx hb d_PM_share_62 (lv_at hl 4 rfl) ?_
        refine lv_iload_n hx hb d_PM_share_64 rfl (lv_at hl 1 rfl) ?_
        obtain ⟨r4, h5, hf⟩ := o_bind hf
        refine cSi0 (rest := []) (c_PM_has l D cI cZ x4 x1 r4 h5) hC hA hP hD hS hl.1 cw_PM_105 ⟨Nat.le_of_ble_eq_true rfl, Nat.le_of_ble_eq_true rfl⟩ rfl rfl (Nat.le_of_ble_eq_true rfl) d_PM_share_65 ⟨Nat.zero_le _, Nat.zero_le _⟩ (fun H locs hP hS => ?_)
        refine lv_if_ne (tgt := 114) hx hb d_PM_share_68 (by decide) (fun c6 => ?_) (fun c6 => ?_)
        · have hf := o_neg c6 hf
          exact B_114 back_55 K_55 x1 x2 x3 x4 v_thrown v_value v_shows _ _ _ hP hD hS (lv_sub hl [0, 1, 2, 3, 4] rfl) hf
        · have hf := o_pos c6 hf
          refine lv_iload hx hb d_PM_share_71 (lv_at hl 4 rfl) ?_
          obtain ⟨r7, h8, hf⟩ := o_bind hf
          refine cSi0 (rest := []) (c_PM_many l D cI cZ x4 r7 h8) hC hA hP hD hS hl.1 cw_PM_162 ⟨Nat.le_of_ble_eq_true rfl, Nat.le_of_ble_eq_true rfl⟩ rfl rfl (Nat.le_of_ble_eq_true rfl) d_PM_share_73 ⟨Nat.zero_le _, Nat.zero_le _⟩ (fun H locs hP hS => ?_)
          refine lv_istore (lv' := [(5, .int r7), (0, .ref a_p0), (1, .int x1), (2, .int x2), (3, .int x3), (4, .int x4)]) hx hb d_PM_share_76 hl (by decide) rfl (fun ls hl => ?_)
          refine lv_iload_n hx hb d_PM_share_78 rfl (lv_at hl 4 rfl) ?_
          refine lv_iload hx hb d_PM_share_79 (lv_at hl 0 rfl) ?_
          obtain ⟨r9, h10, hf⟩ := o_bind hf
          refine cSi0 (rest := [.int x3]) (c_PM_ways l D cI cZ r7 r9 h10) hC hA hP hD hS hl.1 cw_PM_194 ⟨Nat.le_of_ble_eq_true rfl, Nat.le_of_ble_eq_true rfl⟩ rfl rfl (Nat.le_of_ble_eq_true rfl) d_PM_share_81 ⟨Nat.zero_le _, Nat.zero_le _⟩ (fun H locs hP hS => ?_)
          refine lv_iconst (v := 3) hx hb d_PM_share_84 (by decide) ?_
          refine lv_iload hx hb d_PM_share_85 (lv_at hl 0 rfl) ?_
          refine lv_isub hx hb d_PM_share_87 ?_
          obtain ⟨r11, h12, hf⟩ := o_bind hf
          refine cSi0 (rest := [.int r9, .int x3]) (c_PM_ways l D cI cZ (3 - r7) r11 h12) hC hA hP hD hS hl.1 cw_PM_194 ⟨Nat.le_of_ble_eq_true rfl, Nat.le_of_ble_eq_true rfl⟩ rfl rfl (Nat.le_of_ble_eq_true rfl) d_PM_share_88 ⟨Nat.zero_le _, Nat.zero_le _⟩ (fun H locs hP hS => ?_)
          refine lv_imul hx hb d_PM_share_91 ?_
          refine lv_aload_n hx hb d_PM_share_92 rfl (lv_at hl 1 rfl) ?_
          refine gf_PM_53 hC hP 0 rfl rfl d_PM_share_93 ?_
          refine lv_iload hx hb d_PM_share_96 (lv_at hl 5 rfl) ?_
          refine lv_iconst (v := 1) hx hb d_PM_share_98 (by decide) ?_
          refine lv_iload_n hx hb d_PM_share_99 rfl (lv_at hl 2 rfl) ?_
          refine lv_ishl hx hb d_PM_share_100 ?_
          refine lv_ior hx hb d_PM_share_101 ?_
          obtain ⟨v13, h14, hf⟩ := o_bind hf
          refine r_iald hC hP 4 rfl h14 d_PM_share_102 ?_
          refine lv_aload_n hx hb d_PM_share_103 rfl (lv_at hl 1 rfl) ?_
          refine gf_PM_53 hC hP 0 rfl rfl d_PM_share_104 ?_
          refine lv_iload hx hb d_PM_share_107 (lv_at hl 5 rfl) ?_
          obtain ⟨v15, h16, hf⟩ := o_bind hf
          refine r_iald hC hP 4 rfl h16 d_PM_share_109 ?_
          refine lv_isub hx hb d_PM_share_110 ?_
          refine lv_imul hx hb d_PM_share_111 ?_
          refine lv_iadd hx hb d_PM_share_112 ?_
          refine lv_istore_n (lv' := [(3, .int (x3 + ((r9 * r11) * (v13 - v15)))), (5, .int r7), (0, .ref a_p0), (1, .int x1), (2, .int x2), (4, .int x4)]) hx hb d_PM_share_113 rfl hl (by decide) rfl (fun ls hl => ?_)
          exact B_114 back_55 K_55 x1 x2 (x3 + ((r9 * r11) * (v13 - v15))) x4 v_thrown v_value v_shows _ _ _ hP hD hS (lv_sub hl [2, 3, 4, 0, 5] rfl) hf
  have B_24 : ∀  (n : Nat) (x1 : Int32) (x2 : Int32) (x3 : Int32) (v_thrown : Int32) (v_value : Nat → Int32) (v_shows : Nat → Int32) (H : Heap) (locs : List Loc) (ls : Array Slot), va_P D classes (cs_PM_share cI cZ a_p0 a_layer a_cabman a_page a_value a_shows z_text z_readLayer z_readCabman z_trial z_book z_kept z_isKept z_seenCabman z_seenFinger z_seenOff z_seenCame v_thrown v_textSize v_place v_cabmen v_readCabmen v_acts v_seen v_seed v_bestCleaning v_bestLayers v_bestMany v_underMany v_underLeast v_restMany v_restFirst v_layer v_cabman v_page v_value v_shows) H → va_D A (cs_PM_share cI cZ a_p0 a_layer a_cabman a_page a_value a_shows z_text z_readLayer z_readCabman z_trial z_book z_kept z_isKept z_seenCabman z_seenFinger z_seenOff z_seenCame v_thrown v_textSize v_place v_cabmen v_readCabmen v_acts v_seen v_seed v_bestCleaning v_bestLayers v_bestMany v_underMany v_underLeast v_restMany v_restFirst v_layer v_cabman v_page v_value v_shows) → va_S A s.heap H locs → lv_has ls 6 [(0, .ref a_p0), (1, .int x1), (2, .int x2), (3, .int x3)] → f_PM_share_24  v_cabmen v_layer v_cabman v_page n x1 x2 x3 v_thrown v_value v_shows = some res → W p l e (rm_ 3 (40 * 3)) s m args below meth c H locs 0 0 Q (F0 m 24 ls []) := by
    intro  n
    induction n with
    | zero => intro x1 x2 x3 v_thrown v_value v_shows H locs ls hP hD hS hl hf; exact nomatch hf
    | succ n ih =>
      intro x1 x2 x3 v_thrown v_value v_shows H locs ls hP hD hS hl hf
      have hf : f_PM_share_24_b  (f_PM_share_24  v_cabmen v_layer v_cabman v_page n) v_cabmen v_layer v_cabman v_page x1 x2 x3 v_thrown v_value v_shows = some res := hf
      generalize f_PM_share_24  v_cabmen v_layer v_cabman v_page n = back_24 at ih hf
      have K_24 := ih
      unfold f_PM_share_24_b at hf
      refine lv_iload_n hx hb d_PM_share_24 rfl (lv_at hl 3 rfl) ?_
      refine lv_bipush (v := 16) hx hb d_PM_share_25 (by decide) ?_
      refine lv_icmp_ge (tgt := 50) hx hb d_PM_share_27 (by decide) (fun c1 => ?_) (fun c1 => ?_)
      · have hf := o_pos c1 hf
        refine lv_iconst (v := 0) hx hb d_PM_share_50 (by decide) ?_
        refine lv_istore_n (lv' := [(3, .int 0), (0, .ref a_p0), (1, .int x1), (2, .int x2)]) hx hb d_PM_share_51 rfl hl (by decide) rfl (fun ls hl => ?_)
        refine lv_iconst (v := 0) hx hb d_PM_share_52 (by decide) ?_
        refine lv_istore (lv' := [(4, .int 0), (3, .int 0), (0, .ref a_p0), (1, .int x1), (2, .int x2)]) hx hb d_PM_share_53 hl (by decide) rfl (fun ls hl => ?_)
        exact B_55 300 x1 x2 0 0 v_thrown v_value v_shows _ _ _ hP hD hS (lv_sub hl [2, 3, 4, 1, 0] rfl) hf
      · have hf := o_neg c1 hf
        refine lv_aload_n hx hb d_PM_share_30 rfl (lv_at hl 0 rfl) ?_
        refine gf_PM_53 hC hP 0 rfl rfl d_PM_share_31 ?_
        refine lv_iload_n hx hb d_PM_share_34 rfl (lv_at hl 3 rfl) ?_
        refine lv_aload_n hx hb d_PM_share_35 rfl (lv_at hl 0 rfl) ?_
        refine lv_iload_n hx hb d_PM_share_36 rfl (lv_at hl 3 rfl) ?_
        obtain ⟨r2, h3, hf⟩ := o_bind hf
        refine cVi (rest := [.int x3, .ref a_value]) (wr := [(a_layer, .inl (cI, 12, .inl v_layer)), (a_page, .inl (cI, 16, .inl v_page)), (a_value, .inl (cI, 16, .inl v_value))]) (wn := (cs_PM_share cI cZ a_p0 a_layer a_cabman a_page a_value a_shows z_text z_readLayer z_readCabman z_trial z_book z_kept z_isKept z_seenCabman z_seenFinger z_seenOff z_seenCame v_thrown v_textSize v_place v_cabmen v_readCabmen v_acts v_seen v_seed v_bestCleaning v_bestLayers v_bestMany v_underMany v_underLeast v_restMany v_restFirst v_layer v_cabman v_page v_value v_shows)) (c_PM_calledOf l D cI cZ a_p0 a_cabman a_shows z_text a_layer z_readLayer z_readCabman a_page z_trial z_book z_kept z_isKept z_seenCabman z_seenFinger z_seenOff z_seenCame a_value x3 v_thrown v_textSize v_place v_cabmen v_readCabmen v_acts v_seen v_seed v_bestCleaning v_bestLayers v_bestMany v_underMany v_underLeast v_restMany v_restFirst v_cabman v_shows r2 h3) hC hA hP hD hS hl.1 cw_PM_120 0 rfl rfl rfl ⟨Nat.le_of_ble_eq_true rfl, Nat.le_of_ble_eq_true rfl⟩ rfl rfl (Nat.le_of_ble_eq_true rfl) d_PM_share_37 ⟨Nat.zero_le _, Nat.zero_le _⟩ [0, 2, 5] [1, 3, 4] [3, 0, 4, 1, 2, 5] (by decide) (Cut_mk rfl rfl (by decide) (by decide) (by decide) rfl) (fun H locs hP hD hS => ?_)
        obtain ⟨r4, h5, hf⟩ := o_bind hf
        refine cSi0 (rest := [.int x3, .ref a_value]) (c_PM_many l D cI cZ r2 r4 h5) hC hA hP hD hS hl.1 cw_PM_162 ⟨Nat.le_of_ble_eq_true rfl, Nat.le_of_ble_eq_true rfl⟩ rfl rfl (Nat.le_of_ble_eq_true rfl) d_PM_share_40 ⟨Nat.zero_le _, Nat.zero_le _⟩ (fun H locs hP hS => ?_)
        obtain ⟨g6, h7, hf⟩ := o_bind hf
        refine r_iast hC hP hD hS 4 rfl h7 d_PM_share_43 (fun H locs hP hD hS => ?_)
        have hP : va_P D classes (cs_PM_share cI cZ a_p0 a_layer a_cabman a_page a_value a_shows z_text z_readLayer z_readCabman z_trial z_book z_kept z_isKept z_seenCabman z_seenFinger z_seenOff z_seenCame v_thrown v_textSize v_place v_cabmen v_readCabmen v_acts v_seen v_seed v_bestCleaning v_bestLayers v_bestMany v_underMany v_underLeast v_restMany v_restFirst v_layer v_cabman v_page g6 v_shows) H := hP
        have hD : va_D A (cs_PM_share cI cZ a_p0 a_layer a_cabman a_page a_value a_shows z_text z_readLayer z_readCabman z_trial z_book z_kept z_isKept z_seenCabman z_seenFinger z_seenOff z_seenCame v_thrown v_textSize v_place v_cabmen v_readCabmen v_acts v_seen v_seed v_bestCleaning v_bestLayers v_bestMany v_underMany v_underLeast v_restMany v_restFirst v_layer v_cabman v_page g6 v_shows) := hD
        refine lv_iinc (v := x3 + 1) (lv' := [(3, .int (x3 + 1)), (0, .ref a_p0), (1, .int x1), (2, .int x2)]) hx hb d_PM_share_44 hl (k := 3) rfl (rfl) (by decide) rfl (fun ls hl => ?_)
        refine lv_goto (tgt := 24) hx hb d_PM_share_47 (by decide) ?_
        exact K_24 x1 x2 (x3 + 1) v_thrown g6 v_shows _ _ _ hP hD hS (lv_sub hl [1, 2, 3, 0] rfl) hf
  unfold f_PM_share at hf
  have E : ∀ (H : Heap) (locs : List Loc), va_P D classes (cs_PM_share cI cZ a_p0 a_layer a_cabman a_page a_value a_shows z_text z_readLayer z_readCabman z_trial z_book z_kept z_isKept z_seenCabman z_seenFinger z_seenOff z_seenCame v_thrown v_textSize v_place v_cabmen v_readCabmen v_acts v_seen v_seed v_bestCleaning v_bestLayers v_bestMany v_underMany v_underLeast v_restMany v_restFirst v_layer v_cabman v_page v_value v_shows) H → va_S A s.heap H locs → W p l e (rm_ 3 (40 * 3)) s m args below meth c H locs 0 0 Q (F0 m 0 ls []) := by
    intro H locs hP hS
    refine lv_aload_n hx hb d_PM_share_0 rfl (lv_at hl 0 rfl) ?_
    refine lv_iconst (v := 0) hx hb d_PM_share_1 (by decide) ?_
    refine pf_PM_59 hC hP hD hS 0 rfl (Nat.le_of_ble_eq_true rfl) d_PM_share_2 (fun H locs hP hD hS => ?_)
    have hP : va_P D classes (cs_PM_share cI cZ a_p0 a_layer a_cabman a_page a_value a_shows z_text z_readLayer z_readCabman z_trial z_book z_kept z_isKept z_seenCabman z_seenFinger z_seenOff z_seenCame 0 v_textSize v_place v_cabmen v_readCabmen v_acts v_seen v_seed v_bestCleaning v_bestLayers v_bestMany v_underMany v_underLeast v_restMany v_restFirst v_layer v_cabman v_page v_value v_shows) H := hP
    have hD : va_D A (cs_PM_share cI cZ a_p0 a_layer a_cabman a_page a_value a_shows z_text z_readLayer z_readCabman z_trial z_book z_kept z_isKept z_seenCabman z_seenFinger z_seenOff z_seenCame 0 v_textSize v_place v_cabmen v_readCabmen v_acts v_seen v_seed v_bestCleaning v_bestLayers v_bestMany v_underMany v_underLeast v_restMany v_restFirst v_layer v_cabman v_page v_value v_shows) := hD
    refine lv_iload_n hx hb d_PM_share_5 rfl (lv_at hl 1 rfl) ?_
    obtain ⟨r1, h2, hf⟩ := o_bind hf
    refine cSi0 (rest := []) (c_PM_noFinger l D cI cZ i1 r1 h2) hC hA hP hD hS hl.1 cw_PM_127 ⟨Nat.le_of_ble_eq_true rfl, Nat.le_of_ble_eq_true rfl⟩ rfl rfl (Nat.le_of_ble_eq_true rfl) d_PM_share_6 ⟨Nat.zero_le _, Nat.zero_le _⟩ (fun H locs hP hS => ?_)
    refine lv_if_eq (tgt := 14) hx hb d_PM_share_9 (by decide) (fun c3 => ?_) (fun c3 => ?_)
    · have hf := o_pos c3 hf
      refine lv_aload_n hx hb d_PM_share_14 rfl (lv_at hl 0 rfl) ?_
      refine lv_aload_n hx hb d_PM_share_15 rfl (lv_at hl 0 rfl) ?_
      refine gf_PM_25 hC hP 0 rfl rfl d_PM_share_16 ?_
      obtain ⟨r4, h5, hf⟩ := o_bind hf
      refine cVv (rest := []) (wr := [(a_cabman, .inl (cI, 30, .inl v_cabman)), (a_value, .inl (cI, 16, .inl v_value))]) (wn := (cs_PM_share cI cZ a_p0 a_layer a_cabman a_page a_value a_shows z_text z_readLayer z_readCabman z_trial z_book z_kept z_isKept z_seenCabman z_seenFinger z_seenOff z_seenCame 0 v_textSize v_place v_cabmen v_readCabmen v_acts v_seen v_seed v_bestCleaning v_bestLayers v_bestMany v_underMany v_underLeast v_restMany v_restFirst v_layer v_cabman v_page v_value r4)) (c_PM_layShown l D cI cZ a_p0 a_layer a_shows a_page z_text a_cabman z_readLayer z_readCabman a_page z_trial z_book z_kept z_isKept z_seenCabman z_seenFinger z_seenOff z_seenCame a_value 0 v_textSize v_place v_cabmen v_readCabmen v_acts v_seen v_seed v_bestCleaning v_bestLayers v_bestMany v_underMany v_underLeast v_restMany v_restFirst v_layer v_shows v_page r4 h5) hC hA hP hD hS hl.1 cw_PM_112 0 rfl rfl rfl ⟨Nat.le_of_ble_eq_true rfl, Nat.le_of_ble_eq_true rfl⟩ rfl rfl (Nat.le_of_ble_eq_true rfl) d_PM_share_19 ⟨Nat.zero_le _, Nat.zero_le _⟩ [0, 1, 5, 3] [2, 4] [2, 3, 0, 5, 1, 4] (by decide) (Cut_mk rfl rfl (by decide) (by decide) (by decide) rfl) (fun H locs hP hD hS => ?_)
      refine lv_iconst (v := 0) hx hb d_PM_share_22 (by decide) ?_
      refine lv_istore_n (lv' := [(3, .int 0), (0, .ref a_p0), (1, .int i1), (2, .int i2)]) hx hb d_PM_share_23 rfl hl (by decide) rfl (fun ls hl => ?_)
      exact B_24 300 i1 i2 0 0 v_value r4 _ _ _ hP hD hS (lv_sub hl [1, 2, 3, 0] rfl) hf
    · have hf := o_neg c3 hf
      refine lv_iconst (v := (-1)) hx hb d_PM_share_12 (by decide) ?_
      have hr := Option.some.inj hf
      exact RET _ _ _ _ _ _ rfl (congrArg (fun r : Int32 × Int32 × (Nat → Int32) × (Nat → Int32) => r.1) hr) (congrArg (fun r : Int32 × Int32 × (Nat → Int32) × (Nat → Int32) => (cs_PM_share cI cZ a_p0 a_layer a_cabman a_page a_value a_shows z_text z_readLayer z_readCabman z_trial z_book z_kept z_isKept z_seenCabman z_seenFinger z_seenOff z_seenCame r.2.1 v_textSize v_place v_cabmen v_readCabmen v_acts v_seen v_seed v_bestCleaning v_bestLayers v_bestMany v_underMany v_underLeast v_restMany v_restFirst v_layer v_cabman v_page r.2.2.1 r.2.2.2)) hr) hP hD hS d_PM_share_13
  exact E _ _ hP hS
set_option maxHeartbeats 4000000 in
set_option maxRecDepth 100000 in
theorem c_PM_see (l : Launch) (D : va_G) (cI cZ : ClassId) (a_p0 a_seenCabman a_seenFinger a_seenOff a_seenCame z_text z_layer z_cabman z_readLayer z_readCabman z_page z_trial z_book z_kept z_isKept z_value z_shows : Nat) (i1 : Int32) (i2 : Int32) (i3 : Int32) (i4 : Int32) (v_thrown : Int32) (v_textSize : Int32) (v_place : Int32) (v_cabmen : Int32) (v_readCabmen : Int32) (v_acts : Int32) (v_seen : Int32) (v_seed : Int64) (v_bestCleaning : Int32) (v_bestLayers : Int32) (v_bestMany : Int32) (v_underMany : Int32) (v_underLeast : Int32) (v_restMany : Int32) (v_restFirst : Int32) (v_seenCabman : Nat → Int32) (v_seenFinger : Nat → Int32) (v_seenOff : Nat → Int32) (v_seenCame : Nat → Int32) (res : Int32 × Int32 × Int32 × (Nat → Int32) × (Nat → Int32) × (Nat → Int32) × (Nat → Int32)) (hf : f_PM_see i1 i2 i3 i4 v_cabmen v_thrown v_seen v_seenCabman v_seenFinger v_seenOff v_seenCame = some res) : CtI l y_PM_see b_PM_see 5 (some .int) 2 D cI cZ [.ref a_p0, .int i1, .int i2, .int i3, .int i4] (cs_PM_see cI cZ a_p0 a_seenCabman a_seenFinger a_seenOff a_seenCame z_text z_layer z_cabman z_readLayer z_readCabman z_page z_trial z_book z_kept z_isKept z_value z_shows v_thrown v_textSize v_place v_cabmen v_readCabmen v_acts v_seen v_seed v_bestCleaning v_bestLayers v_bestMany v_underMany v_underLeast v_restMany v_restFirst v_seenCabman v_seenFinger v_seenOff v_seenCame) res.1 (cs_PM_see cI cZ a_p0 a_seenCabman a_seenFinger a_seenOff a_seenCame z_text z_layer z_cabman z_readLayer z_readCabman z_page z_trial z_book z_kept z_isKept z_value z_shows res.2.1 v_textSize v_place v_cabmen v_readCabmen v_acts res.2.2.1 v_seed v_bestCleaning v_bestLayers v_bestMany v_underMany v_underLeast v_restMany v_restFirst res.2.2.2.1 res.2.2.2.2.1 res.2.2.2.2.2.1 res.2.2.2.2.2.2) := by
  refine CtI_mk (by decide) (Nat.le_of_ble_eq_true rfl) ?_
  intro p e s m args below meth c A Q hC hA hP hD RET ls hl
  have hC : Cx p s m args meth c b_PM_see 5 R_PM D cI cZ := hC
  have hl : lv_has ls 5 [(0, .ref a_p0), (1, .int i1), (2, .int i2), (3, .int i3), (4, .int i4)] := hl
  obtain ⟨hx, hb, hml, hown, hts, hlk, hKK⟩ := id hC
  have hS : va_S A s.heap s.heap [] := va_S.rf
  have B_20 : ∀  (v_thrown : Int32) (v_seen : Int32) (v_seenCabman : Nat → Int32) (v_seenFinger : Nat → Int32) (v_seenOff : Nat → Int32) (v_seenCame : Nat → Int32) (H : Heap) (locs : List Loc) (ls : Array Slot), va_P D classes (cs_PM_see cI cZ a_p0 a_seenCabman a_seenFinger a_seenOff a_seenCame z_text z_layer z_cabman z_readLayer z_readCabman z_page z_trial z_book z_kept z_isKept z_value z_shows v_thrown v_textSize v_place v_cabmen v_readCabmen v_acts v_seen v_seed v_bestCleaning v_bestLayers v_bestMany v_underMany v_underLeast v_restMany v_restFirst v_seenCabman v_seenFinger v_seenOff v_seenCame) H → va_D A (cs_PM_see cI cZ a_p0 a_seenCabman a_seenFinger a_seenOff a_seenCame z_text z_layer z_cabman z_readLayer z_readCabman z_page z_trial z_book z_kept z_isKept z_value z_shows v_thrown v_textSize v_place v_cabmen v_readCabmen v_acts v_seen v_seed v_bestCleaning v_bestLayers v_bestMany v_underMany v_underLeast v_restMany v_restFirst v_seenCabman v_seenFinger v_seenOff v_seenCame) → va_S A s.heap H locs → lv_has ls 5 [] → f_PM_see_20  v_cabmen v_thrown v_seen v_seenCabman v_seenFinger v_seenOff v_seenCame = some res → W p l e (rm_ 2 (40 * 2)) s m args below meth c H locs 0 0 Q (F0 m 20 ls []) := by
    intro  v_thrown v_seen v_seenCabman v_seenFinger v_seenOff v_seenCame H locs ls hP hD hS hl hf
    unfold f_PM_see_20 at hf
    refine lv_iconst (v := (-1)) hx hb d_PM_see_20 (by decide) ?_
    have hr := Option.some.inj hf
    exact RET _ _ _ _ _ _ rfl (congrArg (fun r : Int32 × Int32 × Int32 × (Nat → Int32) × (Nat → Int32) × (Nat → Int32) × (Nat → Int32) => r.1) hr) (congrArg (fun r : Int32 × Int32 × Int32 × (Nat → Int32) × (Nat → Int32) × (Nat → Int32) × (Nat → Int32) => (cs_PM_see cI cZ a_p0 a_seenCabman a_seenFinger a_seenOff a_seenCame z_text z_layer z_cabman z_readLayer z_readCabman z_page z_trial z_book z_kept z_isKept z_value z_shows r.2.1 v_textSize v_place v_cabmen v_readCabmen v_acts r.2.2.1 v_seed v_bestCleaning v_bestLayers v_bestMany v_underMany v_underLeast v_restMany v_restFirst r.2.2.2.1 r.2.2.2.2.1 r.2.2.2.2.2.1 r.2.2.2.2.2.2)) hr) hP hD hS d_PM_see_21
  have B_45 : ∀  (v_thrown : Int32) (v_seen : Int32) (v_seenCabman : Nat → Int32) (v_seenFinger : Nat → Int32) (v_seenOff : Nat → Int32) (v_seenCame : Nat → Int32) (H : Heap) (locs : List Loc) (ls : Array Slot), va_P D classes (cs_PM_see cI cZ a_p0 a_seenCabman a_seenFinger a_seenOff a_seenCame z_text z_layer z_cabman z_readLayer z_readCabman z_page z_trial z_book z_kept z_isKept z_value z_shows v_thrown v_textSize v_place v_cabmen v_readCabmen v_acts v_seen v_seed v_bestCleaning v_bestLayers v_bestMany v_underMany v_underLeast v_restMany v_restFirst v_seenCabman v_seenFinger v_seenOff v_seenCame) H → va_D A (cs_PM_see cI cZ a_p0 a_seenCabman a_seenFinger a_seenOff a_seenCame z_text z_layer z_cabman z_readLayer z_readCabman z_page z_trial z_book z_kept z_isKept z_value z_shows v_thrown v_textSize v_place v_cabmen v_readCabmen v_acts v_seen v_seed v_bestCleaning v_bestLayers v_bestMany v_underMany v_underLeast v_restMany v_restFirst v_seenCabman v_seenFinger v_seenOff v_seenCame) → va_S A s.heap H locs → lv_has ls 5 [] → f_PM_see_45  v_cabmen v_thrown v_seen v_seenCabman v_seenFinger v_seenOff v_seenCame = some res → W p l e (rm_ 2 (40 * 2)) s m args below meth c H locs 0 0 Q (F0 m 45 ls []) := by
    intro  v_thrown v_seen v_seenCabman v_seenFinger v_seenOff v_seenCame H locs ls hP hD hS hl hf
    unfold f_PM_see_45 at hf
    refine lv_bipush (v := (-2)) hx hb d_PM_see_45 (by decide) ?_
    have hr := Option.some.inj hf
    exact RET _ _ _ _ _ _ rfl (congrArg (fun r : Int32 × Int32 × Int32 × (Nat → Int32) × (Nat → Int32) × (Nat → Int32) × (Nat → Int32) => r.1) hr) (congrArg (fun r : Int32 × Int32 × Int32 × (Nat → Int32) × (Nat → Int32) × (Nat → Int32) × (Nat → Int32) => (cs_PM_see cI cZ a_p0 a_seenCabman a_seenFinger a_seenOff a_seenCame z_text z_layer z_cabman z_readLayer z_readCabman z_page z_trial z_book z_kept z_isKept z_value z_shows r.2.1 v_textSize v_place v_cabmen v_readCabmen v_acts r.2.2.1 v_seed v_bestCleaning v_bestLayers v_bestMany v_underMany v_underLeast v_restMany v_restFirst r.2.2.2.1 r.2.2.2.2.1 r.2.2.2.2.2.1 r.2.2.2.2.2.2)) hr) hP hD hS d_PM_see_47
  unfold f_PM_see at hf
  have E : ∀ (H : Heap) (locs : List Loc), va_P D classes (cs_PM_see cI cZ a_p0 a_seenCabman a_seenFinger a_seenOff a_seenCame z_text z_layer z_cabman z_readLayer z_readCabman z_page z_trial z_book z_kept z_isKept z_value z_shows v_thrown v_textSize v_place v_cabmen v_readCabmen v_acts v_seen v_seed v_bestCleaning v_bestLayers v_bestMany v_underMany v_underLeast v_restMany v_restFirst v_seenCabman v_seenFinger v_seenOff v_seenCame) H → va_S A s.heap H locs → W p l e (rm_ 2 (40 * 2)) s m args below meth c H locs 0 0 Q (F0 m 0 ls []) := by
    intro H locs hP hS
    refine lv_aload_n hx hb d_PM_see_0 rfl (lv_at hl 0 rfl) ?_
    refine lv_iconst (v := 0) hx hb d_PM_see_1 (by decide) ?_
    refine pf_PM_59 hC hP hD hS 0 rfl (Nat.le_of_ble_eq_true rfl) d_PM_see_2 (fun H locs hP hD hS => ?_)
    have hP : va_P D classes (cs_PM_see cI cZ a_p0 a_seenCabman a_seenFinger a_seenOff a_seenCame z_text z_layer z_cabman z_readLayer z_readCabman z_page z_trial z_book z_kept z_isKept z_value z_shows 0 v_textSize v_place v_cabmen v_readCabmen v_acts v_seen v_seed v_bestCleaning v_bestLayers v_bestMany v_underMany v_underLeast v_restMany v_restFirst v_seenCabman v_seenFinger v_seenOff v_seenCame) H := hP
    have hD : va_D A (cs_PM_see cI cZ a_p0 a_seenCabman a_seenFinger a_seenOff a_seenCame z_text z_layer z_cabman z_readLayer z_readCabman z_page z_trial z_book z_kept z_isKept z_value z_shows 0 v_textSize v_place v_cabmen v_readCabmen v_acts v_seen v_seed v_bestCleaning v_bestLayers v_bestMany v_underMany v_underLeast v_restMany v_restFirst v_seenCabman v_seenFinger v_seenOff v_seenCame) := hD
    refine lv_aload_n hx hb d_PM_see_5 rfl (lv_at hl 0 rfl) ?_
    refine lv_iload_n hx hb d_PM_see_6 rfl (lv_at hl 1 rfl) ?_
    obtain ⟨r1, h2, hf⟩ := o_bind hf
    refine cVi (rest := []) (wr := [(a_seenCabman, .inl (cI, 6, .inl v_seenCabman)), (a_seenFinger, .inl (cI, 6, .inl v_seenFinger)), (a_seenOff, .inl (cI, 6, .inl v_seenOff)), (a_seenCame, .inl (cI, 6, .inl v_seenCame))]) (wn := (cs_PM_see cI cZ a_p0 a_seenCabman a_seenFinger a_seenOff a_seenCame z_text z_layer z_cabman z_readLayer z_readCabman z_page z_trial z_book z_kept z_isKept z_value z_shows 0 v_textSize v_place v_cabmen v_readCabmen v_acts v_seen v_seed v_bestCleaning v_bestLayers v_bestMany v_underMany v_underLeast v_restMany v_restFirst v_seenCabman v_seenFinger v_seenOff v_seenCame)) (c_PM_noCabman l D cI cZ a_p0 z_text z_layer z_cabman z_readLayer z_readCabman z_page z_trial z_book z_kept z_isKept a_seenCabman a_seenFinger a_seenOff a_seenCame z_value z_shows i1 0 v_textSize v_place v_cabmen v_readCabmen v_acts v_seen v_seed v_bestCleaning v_bestLayers v_bestMany v_underMany v_underLeast v_restMany v_restFirst r1 h2) hC hA hP hD hS hl.1 cw_PM_133 0 rfl rfl rfl ⟨Nat.le_of_ble_eq_true rfl, Nat.le_of_ble_eq_true rfl⟩ rfl rfl (Nat.le_of_ble_eq_true rfl) d_PM_see_7 ⟨Nat.zero_le _, Nat.zero_le _⟩ [0] [1, 2, 3, 4] [4, 0, 1, 2, 3] (by decide) (Cut_mk rfl rfl (by decide) (by decide) (by decide) rfl) (fun H locs hP hD hS => ?_)
    refine lv_if_ne (tgt := 20) hx hb d_PM_see_10 (by decide) (fun c3 => ?_) (fun c3 => ?_)
    · have hf := o_neg c3 hf
      exact B_20 0 v_seen v_seenCabman v_seenFinger v_seenOff v_seenCame _ _ _ hP hD hS (lv_sub hl [] rfl) hf
    · have hf := o_pos c3 hf
      refine lv_iload_n hx hb d_PM_see_13 rfl (lv_at hl 2 rfl) ?_
      obtain ⟨r4, h5, hf⟩ := o_bind hf
      refine cSi0 (rest := []) (c_PM_noFinger l D cI cZ i2 r4 h5) hC hA hP hD hS hl.1 cw_PM_127 ⟨Nat.le_of_ble_eq_true rfl, Nat.le_of_ble_eq_true rfl⟩ rfl rfl (Nat.le_of_ble_eq_true rfl) d_PM_see_14 ⟨Nat.zero_le _, Nat.zero_le _⟩ (fun H locs hP hS => ?_)
      refine lv_if_eq (tgt := 22) hx hb d_PM_see_17 (by decide) (fun c6 => ?_) (fun c6 => ?_)
      · have hf := o_pos c6 hf
        refine lv_iload_n hx hb d_PM_see_22 rfl (lv_at hl 3 rfl) ?_
        refine lv_i2l (v := Int32.toInt64 i3) hx hb d_PM_see_23 rfl ?_
        refine lv_lconst (v := 0) hx hb d_PM_see_24 (by decide) ?_
        refine lv_ldc2 (v := 2) hx hb hown (hts _ g674) d_PM_see_25 ?_
        obtain ⟨r7, h8, hf⟩ := o_bind hf
        refine cSi0 (rest := []) (c_PM_in l D cI cZ (Int32.toInt64 i3) 0 2 r7 h8) hC hA hP hD hS hl.1 cw_PM_66 ⟨Nat.le_of_ble_eq_true rfl, Nat.le_of_ble_eq_true rfl⟩ rfl rfl (Nat.le_of_ble_eq_true rfl) d_PM_see_28 ⟨Nat.zero_le _, Nat.zero_le _⟩ (fun H locs hP hS => ?_)
        refine lv_if_eq (tgt := 45) hx hb d_PM_see_31 (by decide) (fun c9 => ?_) (fun c9 => ?_)
        · have hf := o_pos c9 hf
          exact B_45 0 v_seen v_seenCabman v_seenFinger v_seenOff v_seenCame _ _ _ hP hD hS (lv_sub hl [] rfl) hf
        · have hf := o_neg c9 hf
          refine lv_iload hx hb d_PM_see_34 (lv_at hl 4 rfl) ?_
          refine lv_i2l (v := Int32.toInt64 i4) hx hb d_PM_see_36 rfl ?_
          refine lv_lconst (v := 0) hx hb d_PM_see_37 (by decide) ?_
          refine lv_lconst (v := 1) hx hb d_PM_see_38 (by decide) ?_
          obtain ⟨r10, h11, hf⟩ := o_bind hf
          refine cSi0 (rest := []) (c_PM_in l D cI cZ (Int32.toInt64 i4) 0 1 r10 h11) hC hA hP hD hS hl.1 cw_PM_66 ⟨Nat.le_of_ble_eq_true rfl, Nat.le_of_ble_eq_true rfl⟩ rfl rfl (Nat.le_of_ble_eq_true rfl) d_PM_see_39 ⟨Nat.zero_le _, Nat.zero_le _⟩ (fun H locs hP hS => ?_)
          refine lv_if_ne (tgt := 48) hx hb d_PM_see_42 (by decide) (fun c12 => ?_) (fun c12 => ?_)
          · have hf := o_neg c12 hf
            refine lv_aload_n hx hb d_PM_see_48 rfl (lv_at hl 0 rfl) ?_
            refine gf_PM_124 hC hP 0 rfl rfl d_PM_see_49 ?_
            refine lv_bipush (v := 6) hx hb d_PM_see_52 (by decide) ?_
            refine lv_icmp_ne (tgt := 60) hx hb d_PM_see_54 (by decide) (fun c13 => ?_) (fun c13 => ?_)
            · have hf := o_neg c13 hf
              refine lv_aload_n hx hb d_PM_see_60 rfl (lv_at hl 0 rfl) ?_
              refine gf_PM_41 hC hP 0 rfl rfl d_PM_see_61 ?_
              refine lv_aload_n hx hb d_PM_see_64 rfl (lv_at hl 0 rfl) ?_
              refine gf_PM_124 hC hP 0 rfl rfl d_PM_see_65 ?_
              refine lv_iload_n hx hb d_PM_see_68 rfl (lv_at hl 1 rfl) ?_
              obtain ⟨g14, h15, hf⟩ := o_bind hf
              refine r_iast hC hP hD hS 1 rfl h15 d_PM_see_69 (fun H locs hP hD hS => ?_)
              have hP : va_P D classes (cs_PM_see cI cZ a_p0 a_seenCabman a_seenFinger a_seenOff a_seenCame z_text z_layer z_cabman z_readLayer z_readCabman z_page z_trial z_book z_kept z_isKept z_value z_shows 0 v_textSize v_place v_cabmen v_readCabmen v_acts v_seen v_seed v_bestCleaning v_bestLayers v_bestMany v_underMany v_underLeast v_restMany v_restFirst g14 v_seenFinger v_seenOff v_seenCame) H := hP
              have hD : va_D A (cs_PM_see cI cZ a_p0 a_seenCabman a_seenFinger a_seenOff a_seenCame z_text z_layer z_cabman z_readLayer z_readCabman z_page z_trial z_book z_kept z_isKept z_value z_shows 0 v_textSize v_place v_cabmen v_readCabmen v_acts v_seen v_seed v_bestCleaning v_bestLayers v_bestMany v_underMany v_underLeast v_restMany v_restFirst g14 v_seenFinger v_seenOff v_seenCame) := hD
              refine lv_aload_n hx hb d_PM_see_70 rfl (lv_at hl 0 rfl) ?_
              refine gf_PM_44 hC hP 0 rfl rfl d_PM_see_71 ?_
              refine lv_aload_n hx hb d_PM_see_74 rfl (lv_at hl 0 rfl) ?_
              refine gf_PM_124 hC hP 0 rfl rfl d_PM_see_75 ?_
              refine lv_iload_n hx hb d_PM_see_78 rfl (lv_at hl 2 rfl) ?_
              obtain ⟨g16, h17, hf⟩ := o_bind hf
              refine r_iast hC hP hD hS 2 rfl h17 d_PM_see_79 (fun H locs hP hD hS => ?_)
              have hP : va_P D classes (cs_PM_see cI cZ a_p0 a_seenCabman a_seenFinger a_seenOff a_seenCame z_text z_layer z_cabman z_readLayer z_readCabman z_page z_trial z_book z_kept z_isKept z_value z_shows 0 v_textSize v_place v_cabmen v_readCabmen v_acts v_seen v_seed v_bestCleaning v_bestLayers v_bestMany v_underMany v_underLeast v_restMany v_restFirst g14 g16 v_seenOff v_seenCame) H := hP
              have hD : va_D A (cs_PM_see cI cZ a_p0 a_seenCabman a_seenFinger a_seenOff a_seenCame z_text z_layer z_cabman z_readLayer z_readCabman z_page z_trial z_book z_kept z_isKept z_value z_shows 0 v_textSize v_place v_cabmen v_readCabmen v_acts v_seen v_seed v_bestCleaning v_bestLayers v_bestMany v_underMany v_underLeast v_restMany v_restFirst g14 g16 v_seenOff v_seenCame) := hD
              refine lv_aload_n hx hb d_PM_see_80 rfl (lv_at hl 0 rfl) ?_
              refine gf_PM_47 hC hP 0 rfl rfl d_PM_see_81 ?_
              refine lv_aload_n hx hb d_PM_see_84 rfl (lv_at hl 0 rfl) ?_
              refine gf_PM_124 hC hP 0 rfl rfl d_PM_see_85 ?_
              refine lv_iload_n hx hb d_PM_see_88 rfl (lv_at hl 3 rfl) ?_
              obtain ⟨g18, h19, hf⟩ := o_bind hf
              refine r_iast hC hP hD hS 3 rfl h19 d_PM_see_89 (fun H locs hP hD hS => ?_)
              have hP : va_P D classes (cs_PM_see cI cZ a_p0 a_seenCabman a_seenFinger a_seenOff a_seenCame z_text z_layer z_cabman z_readLayer z_readCabman z_page z_trial z_book z_kept z_isKept z_value z_shows 0 v_textSize v_place v_cabmen v_readCabmen v_acts v_seen v_seed v_bestCleaning v_bestLayers v_bestMany v_underMany v_underLeast v_restMany v_restFirst g14 g16 g18 v_seenCame) H := hP
              have hD : va_D A (cs_PM_see cI cZ a_p0 a_seenCabman a_seenFinger a_seenOff a_seenCame z_text z_layer z_cabman z_readLayer z_readCabman z_page z_trial z_book z_kept z_isKept z_value z_shows 0 v_textSize v_place v_cabmen v_readCabmen v_acts v_seen v_seed v_bestCleaning v_bestLayers v_bestMany v_underMany v_underLeast v_restMany v_restFirst g14 g16 g18 v_seenCame) := hD
              refine lv_aload_n hx hb d_PM_see_90 rfl (lv_at hl 0 rfl) ?_
              refine gf_PM_50 hC hP 0 rfl rfl d_PM_see_91 ?_
              refine lv_aload_n hx hb d_PM_see_94 rfl (lv_at hl 0 rfl) ?_
              refine gf_PM_124 hC hP 0 rfl rfl d_PM_see_95 ?_
              refine lv_iload hx hb d_PM_see_98 (lv_at hl 4 rfl) ?_
              obtain ⟨g20, h21, hf⟩ := o_bind hf
              refine r_iast hC hP hD hS 4 rfl h21 d_PM_see_100 (fun H locs hP hD hS => ?_)
              have hP : va_P D classes (cs_PM_see cI cZ a_p0 a_seenCabman a_seenFinger a_seenOff a_seenCame z_text z_layer z_cabman z_readLayer z_readCabman z_page z_trial z_book z_kept z_isKept z_value z_shows 0 v_textSize v_place v_cabmen v_readCabmen v_acts v_seen v_seed v_bestCleaning v_bestLayers v_bestMany v_underMany v_underLeast v_restMany v_restFirst g14 g16 g18 g20) H := hP
              have hD : va_D A (cs_PM_see cI cZ a_p0 a_seenCabman a_seenFinger a_seenOff a_seenCame z_text z_layer z_cabman z_readLayer z_readCabman z_page z_trial z_book z_kept z_isKept z_value z_shows 0 v_textSize v_place v_cabmen v_readCabmen v_acts v_seen v_seed v_bestCleaning v_bestLayers v_bestMany v_underMany v_underLeast v_restMany v_restFirst g14 g16 g18 g20) := hD
              refine lv_aload_n hx hb d_PM_see_101 rfl (lv_at hl 0 rfl) ?_
              refine lv_dup hx hb d_PM_see_102 rfl ?_
              refine gf_PM_124 hC hP 0 rfl rfl d_PM_see_103 ?_
              refine lv_iconst (v := 1) hx hb d_PM_see_106 (by decide) ?_
              refine lv_iadd hx hb d_PM_see_107 ?_
              refine pf_PM_124 hC hP hD hS 0 rfl (Nat.le_of_ble_eq_true rfl) d_PM_see_108 (fun H locs hP hD hS => ?_)
              have hP : va_P D classes (cs_PM_see cI cZ a_p0 a_seenCabman a_seenFinger a_seenOff a_seenCame z_text z_layer z_cabman z_readLayer z_readCabman z_page z_trial z_book z_kept z_isKept z_value z_shows 0 v_textSize v_place v_cabmen v_readCabmen v_acts (v_seen + 1) v_seed v_bestCleaning v_bestLayers v_bestMany v_underMany v_underLeast v_restMany v_restFirst g14 g16 g18 g20) H := hP
              have hD : va_D A (cs_PM_see cI cZ a_p0 a_seenCabman a_seenFinger a_seenOff a_seenCame z_text z_layer z_cabman z_readLayer z_readCabman z_page z_trial z_book z_kept z_isKept z_value z_shows 0 v_textSize v_place v_cabmen v_readCabmen v_acts (v_seen + 1) v_seed v_bestCleaning v_bestLayers v_bestMany v_underMany v_underLeast v_restMany v_restFirst g14 g16 g18 g20) := hD
              refine lv_aload_n hx hb d_PM_see_111 rfl (lv_at hl 0 rfl) ?_
              refine gf_PM_124 hC hP 0 rfl rfl d_PM_see_112 ?_
              have hr := Option.some.inj hf
              exact RET _ _ _ _ _ _ rfl (congrArg (fun r : Int32 × Int32 × Int32 × (Nat → Int32) × (Nat → Int32) × (Nat → Int32) × (Nat → Int32) => r.1) hr) (congrArg (fun r : Int32 × Int32 × Int32 × (Nat → Int32) × (Nat → Int32) × (Nat → Int32) × (Nat → Int32) => (cs_PM_see cI cZ a_p0 a_seenCabman a_seenFinger a_seenOff a_seenCame z_text z_layer z_cabman z_readLayer z_readCabman z_page z_trial z_book z_kept z_isKept z_value z_shows r.2.1 v_textSize v_place v_cabmen v_readCabmen v_acts r.2.2.1 v_seed v_bestCleaning v_bestLayers v_bestMany v_underMany v_underLeast v_restMany v_restFirst r.2.2.2.1 r.2.2.2.2.1 r.2.2.2.2.2.1 r.2.2.2.2.2.2)) hr) hP hD hS d_PM_see_115
            · have hf := o_pos c13 hf
              refine lv_bipush (v := (-4)) hx hb d_PM_see_57 (by decide) ?_
              have hr := Option.some.inj hf
              exact RET _ _ _ _ _ _ rfl (congrArg (fun r : Int32 × Int32 × Int32 × (Nat → Int32) × (Nat → Int32) × (Nat → Int32) × (Nat → Int32) => r.1) hr) (congrArg (fun r : Int32 × Int32 × Int32 × (Nat → Int32) × (Nat → Int32) × (Nat → Int32) × (Nat → Int32) => (cs_PM_see cI cZ a_p0 a_seenCabman a_seenFinger a_seenOff a_seenCame z_text z_layer z_cabman z_readLayer z_readCabman z_page z_trial z_book z_kept z_isKept z_value z_shows r.2.1 v_textSize v_place v_cabmen v_readCabmen v_acts r.2.2.1 v_seed v_bestCleaning v_bestLayers v_bestMany v_underMany v_underLeast v_restMany v_restFirst r.2.2.2.1 r.2.2.2.2.1 r.2.2.2.2.2.1 r.2.2.2.2.2.2)) hr) hP hD hS d_PM_see_59
          · have hf := o_pos c12 hf
            exact B_45 0 v_seen v_seenCabman v_seenFinger v_seenOff v_seenCame _ _ _ hP hD hS (lv_sub hl [] rfl) hf
      · have hf := o_neg c6 hf
        exact B_20 0 v_seen v_seenCabman v_seenFinger v_seenOff v_seenCame _ _ _ hP hD hS (lv_sub hl [] rfl) hf
  exact E _ _ hP hS
set_option maxHeartbeats 4000000 in
set_option maxRecDepth 100000 in
theorem c_PM_unsee (l : Launch) (D : va_G) (cI cZ : ClassId) (a_p0 z_text z_layer z_cabman z_readLayer z_readCabman z_page z_trial z_book z_kept z_isKept z_seenCabman z_seenFinger z_seenOff z_seenCame z_value z_shows : Nat) (v_thrown : Int32) (v_textSize : Int32) (v_place : Int32) (v_cabmen : Int32) (v_readCabmen : Int32) (v_acts : Int32) (v_seen : Int32) (v_seed : Int64) (v_bestCleaning : Int32) (v_bestLayers : Int32) (v_bestMany : Int32) (v_underMany : Int32) (v_underLeast : Int32) (v_restMany : Int32) (v_restFirst : Int32) (res : Int32 × Int32 × Int32) (hf : f_PM_unsee v_thrown v_seen = some res) : CtI l y_PM_unsee b_PM_unsee 2 (some .int) 0 D cI cZ [.ref a_p0] (cs_PM_unsee cI cZ a_p0 z_text z_layer z_cabman z_readLayer z_readCabman z_page z_trial z_book z_kept z_isKept z_seenCabman z_seenFinger z_seenOff z_seenCame z_value z_shows v_thrown v_textSize v_place v_cabmen v_readCabmen v_acts v_seen v_seed v_bestCleaning v_bestLayers v_bestMany v_underMany v_underLeast v_restMany v_restFirst) res.1 (cs_PM_unsee cI cZ a_p0 z_text z_layer z_cabman z_readLayer z_readCabman z_page z_trial z_book z_kept z_isKept z_seenCabman z_seenFinger z_seenOff z_seenCame z_value z_shows res.2.1 v_textSize v_place v_cabmen v_readCabmen v_acts res.2.2 v_seed v_bestCleaning v_bestLayers v_bestMany v_underMany v_underLeast v_restMany v_restFirst) := by
  refine CtI_mk (by decide) (Nat.le_of_ble_eq_true rfl) ?_
  intro p e s m args below meth c A Q hC hA hP hD RET ls hl
  have hC : Cx p s m args meth c b_PM_unsee 2 R_PM D cI cZ := hC
  have hl : lv_has ls 2 [(0, .ref a_p0)] := hl
  obtain ⟨hx, hb, hml, hown, hts, hlk, hKK⟩ := id hC
  have hS : va_S A s.heap s.heap [] := va_S.rf
  unfold f_PM_unsee at hf
  have E : ∀ (H : Heap) (locs : List Loc), va_P D classes (cs_PM_unsee cI cZ a_p0 z_text z_layer z_cabman z_readLayer z_readCabman z_page z_trial z_book z_kept z_isKept z_seenCabman z_seenFinger z_seenOff z_seenCame z_value z_shows v_thrown v_textSize v_place v_cabmen v_readCabmen v_acts v_seen v_seed v_bestCleaning v_bestLayers v_bestMany v_underMany v_underLeast v_restMany v_restFirst) H → va_S A s.heap H locs → W p l e (rm_ 0 (40 * 0)) s m args below meth c H locs 0 0 Q (F0 m 0 ls []) := by
    intro H locs hP hS
    refine lv_aload_n hx hb d_PM_unsee_0 rfl (lv_at hl 0 rfl) ?_
    refine lv_iconst (v := 0) hx hb d_PM_unsee_1 (by decide) ?_
    refine pf_PM_59 hC hP hD hS 0 rfl (Nat.le_of_ble_eq_true rfl) d_PM_unsee_2 (fun H locs hP hD hS => ?_)
    have hP : va_P D classes (cs_PM_unsee cI cZ a_p0 z_text z_layer z_cabman z_readLayer z_readCabman z_page z_trial z_book z_kept z_isKept z_seenCabman z_seenFinger z_seenOff z_seenCame z_value z_shows 0 v_textSize v_place v_cabmen v_readCabmen v_acts v_seen v_seed v_bestCleaning v_bestLayers v_bestMany v_underMany v_underLeast v_restMany v_restFirst) H := hP
    have hD : va_D A (cs_PM_unsee cI cZ a_p0 z_text z_layer z_cabman z_readLayer z_readCabman z_page z_trial z_book z_kept z_isKept z_seenCabman z_seenFinger z_seenOff z_seenCame z_value z_shows 0 v_textSize v_place v_cabmen v_readCabmen v_acts v_seen v_seed v_bestCleaning v_bestLayers v_bestMany v_underMany v_underLeast v_restMany v_restFirst) := hD
    refine lv_aload_n hx hb d_PM_unsee_5 rfl (lv_at hl 0 rfl) ?_
    refine gf_PM_124 hC hP 0 rfl rfl d_PM_unsee_6 ?_
    refine lv_istore_n (lv' := [(1, .int v_seen), (0, .ref a_p0)]) hx hb d_PM_unsee_9 rfl hl (by decide) rfl (fun ls hl => ?_)
    refine lv_aload_n hx hb d_PM_unsee_10 rfl (lv_at hl 1 rfl) ?_
    refine lv_iconst (v := 0) hx hb d_PM_unsee_11 (by decide) ?_
    refine pf_PM_124 hC hP hD hS 0 rfl (Nat.le_of_ble_eq_true rfl) d_PM_unsee_12 (fun H locs hP hD hS => ?_)
    have hP : va_P D classes (cs_PM_unsee cI cZ a_p0 z_text z_layer z_cabman z_readLayer z_readCabman z_page z_trial z_book z_kept z_isKept z_seenCabman z_seenFinger z_seenOff z_seenCame z_value z_shows 0 v_textSize v_place v_cabmen v_readCabmen v_acts 0 v_seed v_bestCleaning v_bestLayers v_bestMany v_underMany v_underLeast v_restMany v_restFirst) H := hP
    have hD : va_D A (cs_PM_unsee cI cZ a_p0 z_text z_layer z_cabman z_readLayer z_readCabman z_page z_trial z_book z_kept z_isKept z_seenCabman z_seenFinger z_seenOff z_seenCame z_value z_shows 0 v_textSize v_place v_cabmen v_readCabmen v_acts 0 v_seed v_bestCleaning v_bestLayers v_bestMany v_underMany v_underLeast v_restMany v_restFirst) := hD
    refine lv_iload_n hx hb d_PM_unsee_15 rfl (lv_at hl 0 rfl) ?_
    have hr := Option.some.inj hf
    exact RET _ _ _ _ _ _ rfl (congrArg (fun r : Int32 × Int32 × Int32 => r.1) hr) (congrArg (fun r : Int32 × Int32 × Int32 => (cs_PM_unsee cI cZ a_p0 z_text z_layer z_cabman z_readLayer z_readCabman z_page z_trial z_book z_kept z_isKept z_seenCabman z_seenFinger z_seenOff z_seenCame z_value z_shows r.2.1 v_textSize v_place v_cabmen v_readCabmen v_acts r.2.2 v_seed v_bestCleaning v_bestLayers v_bestMany v_underMany v_underLeast v_restMany v_restFirst)) hr) hP hD hS d_PM_unsee_16
  exact E _ _ hP hS
set_option maxHeartbeats 4000000 in
set_option maxRecDepth 100000 in
theorem c_PM_findUnder (l : Launch) (D : va_G) (cI cZ : ClassId) (a_p0 a_layer a_cabman a_page a_seenCabman a_seenFinger a_seenOff a_seenCame a_shows z_text z_readLayer z_readCabman z_trial z_book z_kept z_isKept z_value : Nat) (i1 : Int32) (v_thrown : Int32) (v_textSize : Int32) (v_place : Int32) (v_cabmen : Int32) (v_readCabmen : Int32) (v_acts : Int32) (v_seen : Int32) (v_seed : Int64) (v_bestCleaning : Int32) (v_bestLayers : Int32) (v_bestMany : Int32) (v_underMany : Int32) (v_underLeast : Int32) (v_restMany : Int32) (v_restFirst : Int32) (v_layer : Nat → Int32) (v_cabman : Nat → Int32) (v_page : Nat → Int32) (v_seenCabman : Nat → Int32) (v_seenFinger : Nat → Int32) (v_seenOff : Nat → Int32) (v_seenCame : Nat → Int32) (v_shows : Nat → Int32) (res : Int32 × Int32 × (Nat → Int32)) (hf : f_PM_findUnder i1 v_cabmen v_seen v_layer v_cabman v_page v_seenCabman v_seenFinger v_seenOff v_seenCame v_underMany v_underLeast v_shows = some res) : CtV l y_PM_findUnder b_PM_findUnder 6 none 2 D cI cZ [.ref a_p0, .int i1] (cs_PM_findUnder cI cZ a_p0 a_layer a_cabman a_page a_seenCabman a_seenFinger a_seenOff a_seenCame a_shows z_text z_readLayer z_readCabman z_trial z_book z_kept z_isKept z_value v_thrown v_textSize v_place v_cabmen v_readCabmen v_acts v_seen v_seed v_bestCleaning v_bestLayers v_bestMany v_underMany v_underLeast v_restMany v_restFirst v_layer v_cabman v_page v_seenCabman v_seenFinger v_seenOff v_seenCame v_shows) (cs_PM_findUnder cI cZ a_p0 a_layer a_cabman a_page a_seenCabman a_seenFinger a_seenOff a_seenCame a_shows z_text z_readLayer z_readCabman z_trial z_book z_kept z_isKept z_value v_thrown v_textSize v_place v_cabmen v_readCabmen v_acts v_seen v_seed v_bestCleaning v_bestLayers v_bestMany res.1 res.2.1 v_restMany v_restFirst v_layer v_cabman v_page v_seenCabman v_seenFinger v_seenOff v_seenCame res.2.2) := by
  refine CtV_mk (by decide) (Nat.le_of_ble_eq_true rfl) ?_
  intro p e s m args below meth c A Q hC hA hP hD RET ls hl
  have hC : Cx p s m args meth c b_PM_findUnder 6 R_PM D cI cZ := hC
  have hl : lv_has ls 6 [(0, .ref a_p0), (1, .int i1)] := hl
  obtain ⟨hx, hb, hml, hown, hts, hlk, hKK⟩ := id hC
  have hS : va_S A s.heap s.heap [] := va_S.rf
  have B_186 : ∀ (back_13 : Int32 → Int32 → Int32 → Int32 → (Nat → Int32) → Option (Int32 × Int32 × (Nat → Int32))) (K_13 : ∀ (x1 : Int32) (x2 : Int32) (v_underMany : Int32) (v_underLeast : Int32) (v_shows : Nat → Int32) (H : Heap) (locs : List Loc) (ls : Array Slot), va_P D classes (cs_PM_findUnder cI cZ a_p0 a_layer a_cabman a_page a_seenCabman a_seenFinger a_seenOff a_seenCame a_shows z_text z_readLayer z_readCabman z_trial z_book z_kept z_isKept z_value v_thrown v_textSize v_place v_cabmen v_readCabmen v_acts v_seen v_seed v_bestCleaning v_bestLayers v_bestMany v_underMany v_underLeast v_restMany v_restFirst v_layer v_cabman v_page v_seenCabman v_seenFinger v_seenOff v_seenCame v_shows) H → va_D A (cs_PM_findUnder cI cZ a_p0 a_layer a_cabman a_page a_seenCabman a_seenFinger a_seenOff a_seenCame a_shows z_text z_readLayer z_readCabman z_trial z_book z_kept z_isKept z_value v_thrown v_textSize v_place v_cabmen v_readCabmen v_acts v_seen v_seed v_bestCleaning v_bestLayers v_bestMany v_underMany v_underLeast v_restMany v_restFirst v_layer v_cabman v_page v_seenCabman v_seenFinger v_seenOff v_seenCame v_shows) → va_S A s.heap H locs → lv_has ls 6 [(0, .ref a_p0), (1, .int x1), (2, .int x2)] → back_13 x1 x2 v_underMany v_underLeast v_shows = some res → W p l e (rm_ 2 (40 * 2)) s m args below meth c H locs 0 0 Q (F0 m 13 ls [])) (x1 : Int32) (x2 : Int32) (w1 : Int32) (w2 : Int32) (v_underMany : Int32) (v_underLeast : Int32) (v_shows : Nat → Int32) (H : Heap) (locs : List Loc) (ls : Array Slot), va_P D classes (cs_PM_findUnder cI cZ a_p0 a_layer a_cabman a_page a_seenCabman a_seenFinger a_seenOff a_seenCame a_shows z_text z_readLayer z_readCabman z_trial z_book z_kept z_isKept z_value v_thrown v_textSize v_place v_cabmen v_readCabmen v_acts v_seen v_seed v_bestCleaning v_bestLayers v_bestMany v_underMany v_underLeast v_restMany v_restFirst v_layer v_cabman v_page v_seenCabman v_seenFinger v_seenOff v_seenCame v_shows) H → va_D A (cs_PM_findUnder cI cZ a_p0 a_layer a_cabman a_page a_seenCabman a_seenFinger a_seenOff a_seenCame a_shows z_text z_readLayer z_readCabman z_trial z_book z_kept z_isKept z_value v_thrown v_textSize v_place v_cabmen v_readCabmen v_acts v_seen v_seed v_bestCleaning v_bestLayers v_bestMany v_underMany v_underLeast v_restMany v_restFirst v_layer v_cabman v_page v_seenCabman v_seenFinger v_seenOff v_seenCame v_shows) → va_S A s.heap H locs → lv_has ls 6 [(0, .ref a_p0), (1, .int x1), (2, .int x2)] → f_PM_findUnder_186 back_13 v_cabmen v_seen v_layer v_cabman v_page v_seenCabman v_seenFinger v_seenOff v_seenCame x1 x2 w1 w2 v_underMany v_underLeast v_shows = some res → W p l e (rm_ 2 (40 * 2)) s m args below meth c H locs 0 0 Q (F0 m 186 ls [.int w2, .int w1, .ref a_p0]) := by
    intro back_13 K_13 x1 x2 w1 w2 v_underMany v_underLeast v_shows H locs ls hP hD hS hl hf
    unfold f_PM_findUnder_186 at hf
    refine lv_iadd hx hb d_PM_findUnder_186 ?_
    refine pf_PM_201 hC hP hD hS 0 rfl (Nat.le_of_ble_eq_true rfl) d_PM_findUnder_187 (fun H locs hP hD hS => ?_)
    have hP : va_P D classes (cs_PM_findUnder cI cZ a_p0 a_layer a_cabman a_page a_seenCabman a_seenFinger a_seenOff a_seenCame a_shows z_text z_readLayer z_readCabman z_trial z_book z_kept z_isKept z_value v_thrown v_textSize v_place v_cabmen v_readCabmen v_acts v_seen v_seed v_bestCleaning v_bestLayers v_bestMany (w1 + w2) v_underLeast v_restMany v_restFirst v_layer v_cabman v_page v_seenCabman v_seenFinger v_seenOff v_seenCame v_shows) H := hP
    have hD : va_D A (cs_PM_findUnder cI cZ a_p0 a_layer a_cabman a_page a_seenCabman a_seenFinger a_seenOff a_seenCame a_shows z_text z_readLayer z_readCabman z_trial z_book z_kept z_isKept z_value v_thrown v_textSize v_place v_cabmen v_readCabmen v_acts v_seen v_seed v_bestCleaning v_bestLayers v_bestMany (w1 + w2) v_underLeast v_restMany v_restFirst v_layer v_cabman v_page v_seenCabman v_seenFinger v_seenOff v_seenCame v_shows) := hD
    refine lv_iinc (v := x2 + 1) (lv' := [(2, .int (x2 + 1)), (0, .ref a_p0), (1, .int x1)]) hx hb d_PM_findUnder_190 hl (k := 2) rfl (rfl) (by decide) rfl (fun ls hl => ?_)
    refine lv_goto (tgt := 13) hx hb d_PM_findUnder_193 (by decide) ?_
    exact K_13 x1 (x2 + 1) (w1 + w2) v_underLeast v_shows _ _ _ hP hD hS (lv_sub hl [1, 2, 0] rfl) hf
  have B_169 : ∀ (back_13 : Int32 → Int32 → Int32 → Int32 → (Nat → Int32) → Option (Int32 × Int32 × (Nat → Int32))) (K_13 : ∀ (x1 : Int32) (x2 : Int32) (v_underMany : Int32) (v_underLeast : Int32) (v_shows : Nat → Int32) (H : Heap) (locs : List Loc) (ls : Array Slot), va_P D classes (cs_PM_findUnder cI cZ a_p0 a_layer a_cabman a_page a_seenCabman a_seenFinger a_seenOff a_seenCame a_shows z_text z_readLayer z_readCabman z_trial z_book z_kept z_isKept z_value v_thrown v_textSize v_place v_cabmen v_readCabmen v_acts v_seen v_seed v_bestCleaning v_bestLayers v_bestMany v_underMany v_underLeast v_restMany v_restFirst v_layer v_cabman v_page v_seenCabman v_seenFinger v_seenOff v_seenCame v_shows) H → va_D A (cs_PM_findUnder cI cZ a_p0 a_layer a_cabman a_page a_seenCabman a_seenFinger a_seenOff a_seenCame a_shows z_text z_readLayer z_readCabman z_trial z_book z_kept z_isKept z_value v_thrown v_textSize v_place v_cabmen v_readCabmen v_acts v_seen v_seed v_bestCleaning v_bestLayers v_bestMany v_underMany v_underLeast v_restMany v_restFirst v_layer v_cabman v_page v_seenCabman v_seenFinger v_seenOff v_seenCame v_shows) → va_S A s.heap H locs → lv_has ls 6 [(0, .ref a_p0), (1, .int x1), (2, .int x2)] → back_13 x1 x2 v_underMany v_underLeast v_shows = some res → W p l e (rm_ 2 (40 * 2)) s m args below meth c H locs 0 0 Q (F0 m 13 ls [])) (x1 : Int32) (x2 : Int32) (x3 : Int32) (w1 : Int32) (v_underMany : Int32) (v_underLeast : Int32) (v_shows : Nat → Int32) (H : Heap) (locs : List Loc) (ls : Array Slot), va_P D classes (cs_PM_findUnder cI cZ a_p0 a_layer a_cabman a_page a_seenCabman a_seenFinger a_seenOff a_seenCame a_shows z_text z_readLayer z_readCabman z_trial z_book z_kept z_isKept z_value v_thrown v_textSize v_place v_cabmen v_readCabmen v_acts v_seen v_seed v_bestCleaning v_bestLayers v_bestMany v_underMany v_underLeast v_restMany v_restFirst v_layer v_cabman v_page v_seenCabman v_seenFinger v_seenOff v_seenCame v_shows) H → va_D A (cs_PM_findUnder cI cZ a_p0 a_layer a_cabman a_page a_seenCabman a_seenFinger a_seenOff a_seenCame a_shows z_text z_readLayer z_readCabman z_trial z_book z_kept z_isKept z_value v_thrown v_textSize v_place v_cabmen v_readCabmen v_acts v_seen v_seed v_bestCleaning v_bestLayers v_bestMany v_underMany v_underLeast v_restMany v_restFirst v_layer v_cabman v_page v_seenCabman v_seenFinger v_seenOff v_seenCame v_shows) → va_S A s.heap H locs → lv_has ls 6 [(0, .ref a_p0), (1, .int x1), (2, .int x2), (3, .int x3)] → f_PM_findUnder_169 back_13 v_cabmen v_seen v_layer v_cabman v_page v_seenCabman v_seenFinger v_seenOff v_seenCame x1 x2 x3 w1 v_underMany v_underLeast v_shows = some res → W p l e (rm_ 2 (40 * 2)) s m args below meth c H locs 0 0 Q (F0 m 169 ls [.int w1, .ref a_p0]) := by
    intro back_13 K_13 x1 x2 x3 w1 v_underMany v_underLeast v_shows H locs ls hP hD hS hl hf
    unfold f_PM_findUnder_169 at hf
    refine pf_PM_204 hC hP hD hS 0 rfl (Nat.le_of_ble_eq_true rfl) d_PM_findUnder_169 (fun H locs hP hD hS => ?_)
    have hP : va_P D classes (cs_PM_findUnder cI cZ a_p0 a_layer a_cabman a_page a_seenCabman a_seenFinger a_seenOff a_seenCame a_shows z_text z_readLayer z_readCabman z_trial z_book z_kept z_isKept z_value v_thrown v_textSize v_place v_cabmen v_readCabmen v_acts v_seen v_seed v_bestCleaning v_bestLayers v_bestMany v_underMany w1 v_restMany v_restFirst v_layer v_cabman v_page v_seenCabman v_seenFinger v_seenOff v_seenCame v_shows) H := hP
    have hD : va_D A (cs_PM_findUnder cI cZ a_p0 a_layer a_cabman a_page a_seenCabman a_seenFinger a_seenOff a_seenCame a_shows z_text z_readLayer z_readCabman z_trial z_book z_kept z_isKept z_value v_thrown v_textSize v_place v_cabmen v_readCabmen v_acts v_seen v_seed v_bestCleaning v_bestLayers v_bestMany v_underMany w1 v_restMany v_restFirst v_layer v_cabman v_page v_seenCabman v_seenFinger v_seenOff v_seenCame v_shows) := hD
    refine lv_aload_n hx hb d_PM_findUnder_172 rfl (lv_at hl 0 rfl) ?_
    refine lv_dup hx hb d_PM_findUnder_173 rfl ?_
    refine gf_PM_201 hC hP 0 rfl rfl d_PM_findUnder_174 ?_
    refine lv_iload_n hx hb d_PM_findUnder_177 rfl (lv_at hl 3 rfl) ?_
    refine lv_if_eq (tgt := 185) hx hb d_PM_findUnder_178 (by decide) (fun c1 => ?_) (fun c1 => ?_)
    · have hf := o_pos c1 hf
      refine lv_iconst (v := 0) hx hb d_PM_findUnder_185 (by decide) ?_
      exact B_186 back_13 K_13 x1 x2 v_underMany 0 v_underMany w1 v_shows _ _ _ hP hD hS (lv_sub hl [0, 1, 2] rfl) hf
    · have hf := o_neg c1 hf
      refine lv_iconst (v := 1) hx hb d_PM_findUnder_181 (by decide) ?_
      refine lv_goto (tgt := 186) hx hb d_PM_findUnder_182 (by decide) ?_
      exact B_186 back_13 K_13 x1 x2 v_underMany 1 v_underMany w1 v_shows _ _ _ hP hD hS (lv_sub hl [0, 1, 2] rfl) hf
  have B_165 : ∀ (back_13 : Int32 → Int32 → Int32 → Int32 → (Nat → Int32) → Option (Int32 × Int32 × (Nat → Int32))) (K_13 : ∀ (x1 : Int32) (x2 : Int32) (v_underMany : Int32) (v_underLeast : Int32) (v_shows : Nat → Int32) (H : Heap) (locs : List Loc) (ls : Array Slot), va_P D classes (cs_PM_findUnder cI cZ a_p0 a_layer a_cabman a_page a_seenCabman a_seenFinger a_seenOff a_seenCame a_shows z_text z_readLayer z_readCabman z_trial z_book z_kept z_isKept z_value v_thrown v_textSize v_place v_cabmen v_readCabmen v_acts v_seen v_seed v_bestCleaning v_bestLayers v_bestMany v_underMany v_underLeast v_restMany v_restFirst v_layer v_cabman v_page v_seenCabman v_seenFinger v_seenOff v_seenCame v_shows) H → va_D A (cs_PM_findUnder cI cZ a_p0 a_layer a_cabman a_page a_seenCabman a_seenFinger a_seenOff a_seenCame a_shows z_text z_readLayer z_readCabman z_trial z_book z_kept z_isKept z_value v_thrown v_textSize v_place v_cabmen v_readCabmen v_acts v_seen v_seed v_bestCleaning v_bestLayers v_bestMany v_underMany v_underLeast v_restMany v_restFirst v_layer v_cabman v_page v_seenCabman v_seenFinger v_seenOff v_seenCame v_shows) → va_S A s.heap H locs → lv_has ls 6 [(0, .ref a_p0), (1, .int x1), (2, .int x2)] → back_13 x1 x2 v_underMany v_underLeast v_shows = some res → W p l e (rm_ 2 (40 * 2)) s m args below meth c H locs 0 0 Q (F0 m 13 ls [])) (x1 : Int32) (x2 : Int32) (x3 : Int32) (v_underMany : Int32) (v_underLeast : Int32) (v_shows : Nat → Int32) (H : Heap) (locs : List Loc) (ls : Array Slot), va_P D classes (cs_PM_findUnder cI cZ a_p0 a_layer a_cabman a_page a_seenCabman a_seenFinger a_seenOff a_seenCame a_shows z_text z_readLayer z_readCabman z_trial z_book z_kept z_isKept z_value v_thrown v_textSize v_place v_cabmen v_readCabmen v_acts v_seen v_seed v_bestCleaning v_bestLayers v_bestMany v_underMany v_underLeast v_restMany v_restFirst v_layer v_cabman v_page v_seenCabman v_seenFinger v_seenOff v_seenCame v_shows) H → va_D A (cs_PM_findUnder cI cZ a_p0 a_layer a_cabman a_page a_seenCabman a_seenFinger a_seenOff a_seenCame a_shows z_text z_readLayer z_readCabman z_trial z_book z_kept z_isKept z_value v_thrown v_textSize v_place v_cabmen v_readCabmen v_acts v_seen v_seed v_bestCleaning v_bestLayers v_bestMany v_underMany v_underLeast v_restMany v_restFirst v_layer v_cabman v_page v_seenCabman v_seenFinger v_seenOff v_seenCame v_shows) → va_S A s.heap H locs → lv_has ls 6 [(0, .ref a_p0), (1, .int x1), (2, .int x2), (3, .int x3)] → f_PM_findUnder_165 back_13 v_cabmen v_seen v_layer v_cabman v_page v_seenCabman v_seenFinger v_seenOff v_seenCame x1 x2 x3 v_underMany v_underLeast v_shows = some res → W p l e (rm_ 2 (40 * 2)) s m args below meth c H locs 0 0 Q (F0 m 165 ls [.ref a_p0]) := by
    intro back_13 K_13 x1 x2 x3 v_underMany v_underLeast v_shows H locs ls hP hD hS hl hf
    unfold f_PM_findUnder_165 at hf
    refine lv_aload_n hx hb d_PM_findUnder_165 rfl (lv_at hl 0 rfl) ?_
    refine gf_PM_204 hC hP 0 rfl rfl d_PM_findUnder_166 ?_
    exact B_169 back_13 K_13 x1 x2 x3 v_underLeast v_underMany v_underLeast v_shows _ _ _ hP hD hS (lv_sub hl [0, 1, 2, 3] rfl) hf
  have B_149 : ∀ (back_13 : Int32 → Int32 → Int32 → Int32 → (Nat → Int32) → Option (Int32 × Int32 × (Nat → Int32))) (K_13 : ∀ (x1 : Int32) (x2 : Int32) (v_underMany : Int32) (v_underLeast : Int32) (v_shows : Nat → Int32) (H : Heap) (locs : List Loc) (ls : Array Slot), va_P D classes (cs_PM_findUnder cI cZ a_p0 a_layer a_cabman a_page a_seenCabman a_seenFinger a_seenOff a_seenCame a_shows z_text z_readLayer z_readCabman z_trial z_book z_kept z_isKept z_value v_thrown v_textSize v_place v_cabmen v_readCabmen v_acts v_seen v_seed v_bestCleaning v_bestLayers v_bestMany v_underMany v_underLeast v_restMany v_restFirst v_layer v_cabman v_page v_seenCabman v_seenFinger v_seenOff v_seenCame v_shows) H → va_D A (cs_PM_findUnder cI cZ a_p0 a_layer a_cabman a_page a_seenCabman a_seenFinger a_seenOff a_seenCame a_shows z_text z_readLayer z_readCabman z_trial z_book z_kept z_isKept z_value v_thrown v_textSize v_place v_cabmen v_readCabmen v_acts v_seen v_seed v_bestCleaning v_bestLayers v_bestMany v_underMany v_underLeast v_restMany v_restFirst v_layer v_cabman v_page v_seenCabman v_seenFinger v_seenOff v_seenCame v_shows) → va_S A s.heap H locs → lv_has ls 6 [(0, .ref a_p0), (1, .int x1), (2, .int x2)] → back_13 x1 x2 v_underMany v_underLeast v_shows = some res → W p l e (rm_ 2 (40 * 2)) s m args below meth c H locs 0 0 Q (F0 m 13 ls [])) (x1 : Int32) (x2 : Int32) (x3 : Int32) (v_underMany : Int32) (v_underLeast : Int32) (v_shows : Nat → Int32) (H : Heap) (locs : List Loc) (ls : Array Slot), va_P D classes (cs_PM_findUnder cI cZ a_p0 a_layer a_cabman a_page a_seenCabman a_seenFinger a_seenOff a_seenCame a_shows z_text z_readLayer z_readCabman z_trial z_book z_kept z_isKept z_value v_thrown v_textSize v_place v_cabmen v_readCabmen v_acts v_seen v_seed v_bestCleaning v_bestLayers v_bestMany v_underMany v_underLeast v_restMany v_restFirst v_layer v_cabman v_page v_seenCabman v_seenFinger v_seenOff v_seenCame v_shows) H → va_D A (cs_PM_findUnder cI cZ a_p0 a_layer a_cabman a_page a_seenCabman a_seenFinger a_seenOff a_seenCame a_shows z_text z_readLayer z_readCabman z_trial z_book z_kept z_isKept z_value v_thrown v_textSize v_place v_cabmen v_readCabmen v_acts v_seen v_seed v_bestCleaning v_bestLayers v_bestMany v_underMany v_underLeast v_restMany v_restFirst v_layer v_cabman v_page v_seenCabman v_seenFinger v_seenOff v_seenCame v_shows) → va_S A s.heap H locs → lv_has ls 6 [(0, .ref a_p0), (1, .int x1), (2, .int x2), (3, .int x3)] → f_PM_findUnder_149 back_13 v_cabmen v_seen v_layer v_cabman v_page v_seenCabman v_seenFinger v_seenOff v_seenCame x1 x2 x3 v_underMany v_underLeast v_shows = some res → W p l e (rm_ 2 (40 * 2)) s m args below meth c H locs 0 0 Q (F0 m 149 ls []) := by
    intro back_13 K_13 x1 x2 x3 v_underMany v_underLeast v_shows H locs ls hP hD hS hl hf
    unfold f_PM_findUnder_149 at hf
    refine lv_aload_n hx hb d_PM_findUnder_149 rfl (lv_at hl 0 rfl) ?_
    refine lv_iload_n hx hb d_PM_findUnder_150 rfl (lv_at hl 3 rfl) ?_
    refine lv_if_eq (tgt := 165) hx hb d_PM_findUnder_151 (by decide) (fun c1 => ?_) (fun c1 => ?_)
    · have hf := o_pos c1 hf
      exact B_165 back_13 K_13 x1 x2 x3 v_underMany v_underLeast v_shows _ _ _ hP hD hS (lv_sub hl [0, 1, 2, 3] rfl) hf
    · have hf := o_neg c1 hf
      refine lv_aload_n hx hb d_PM_findUnder_154 rfl (lv_at hl 0 rfl) ?_
      refine gf_PM_201 hC hP 0 rfl rfl d_PM_findUnder_155 ?_
      refine lv_if_ne (tgt := 165) hx hb d_PM_findUnder_158 (by decide) (fun c2 => ?_) (fun c2 => ?_)
      · have hf := o_neg c2 hf
        exact B_165 back_13 K_13 x1 x2 x3 v_underMany v_underLeast v_shows _ _ _ hP hD hS (lv_sub hl [0, 1, 2, 3] rfl) hf
      · have hf := o_pos c2 hf
        refine lv_iload_n hx hb d_PM_findUnder_161 rfl (lv_at hl 2 rfl) ?_
        refine lv_goto (tgt := 169) hx hb d_PM_findUnder_162 (by decide) ?_
        exact B_169 back_13 K_13 x1 x2 x3 x2 v_underMany v_underLeast v_shows _ _ _ hP hD hS (lv_sub hl [0, 1, 2, 3] rfl) hf
  have B_142 : ∀ (back_13 : Int32 → Int32 → Int32 → Int32 → (Nat → Int32) → Option (Int32 × Int32 × (Nat → Int32))) (K_13 : ∀ (x1 : Int32) (x2 : Int32) (v_underMany : Int32) (v_underLeast : Int32) (v_shows : Nat → Int32) (H : Heap) (locs : List Loc) (ls : Array Slot), va_P D classes (cs_PM_findUnder cI cZ a_p0 a_layer a_cabman a_page a_seenCabman a_seenFinger a_seenOff a_seenCame a_shows z_text z_readLayer z_readCabman z_trial z_book z_kept z_isKept z_value v_thrown v_textSize v_place v_cabmen v_readCabmen v_acts v_seen v_seed v_bestCleaning v_bestLayers v_bestMany v_underMany v_underLeast v_restMany v_restFirst v_layer v_cabman v_page v_seenCabman v_seenFinger v_seenOff v_seenCame v_shows) H → va_D A (cs_PM_findUnder cI cZ a_p0 a_layer a_cabman a_page a_seenCabman a_seenFinger a_seenOff a_seenCame a_shows z_text z_readLayer z_readCabman z_trial z_book z_kept z_isKept z_value v_thrown v_textSize v_place v_cabmen v_readCabmen v_acts v_seen v_seed v_bestCleaning v_bestLayers v_bestMany v_underMany v_underLeast v_restMany v_restFirst v_layer v_cabman v_page v_seenCabman v_seenFinger v_seenOff v_seenCame v_shows) → va_S A s.heap H locs → lv_has ls 6 [(0, .ref a_p0), (1, .int x1), (2, .int x2)] → back_13 x1 x2 v_underMany v_underLeast v_shows = some res → W p l e (rm_ 2 (40 * 2)) s m args below meth c H locs 0 0 Q (F0 m 13 ls [])) (back_24 : Int32 → Int32 → Int32 → Int32 → Int32 → Int32 → (Nat → Int32) → Option (Int32 × Int32 × (Nat → Int32))) (K_24 : ∀ (x1 : Int32) (x2 : Int32) (x3 : Int32) (x4 : Int32) (v_underMany : Int32) (v_underLeast : Int32) (v_shows : Nat → Int32) (H : Heap) (locs : List Loc) (ls : Array Slot), va_P D classes (cs_PM_findUnder cI cZ a_p0 a_layer a_cabman a_page a_seenCabman a_seenFinger a_seenOff a_seenCame a_shows z_text z_readLayer z_readCabman z_trial z_book z_kept z_isKept z_value v_thrown v_textSize v_place v_cabmen v_readCabmen v_acts v_seen v_seed v_bestCleaning v_bestLayers v_bestMany v_underMany v_underLeast v_restMany v_restFirst v_layer v_cabman v_page v_seenCabman v_seenFinger v_seenOff v_seenCame v_shows) H → va_D A (cs_PM_findUnder cI cZ a_p0 a_layer a_cabman a_page a_seenCabman a_seenFinger a_seenOff a_seenCame a_shows z_text z_readLayer z_readCabman z_trial z_book z_kept z_isKept z_value v_thrown v_textSize v_place v_cabmen v_readCabmen v_acts v_seen v_seed v_bestCleaning v_bestLayers v_bestMany v_underMany v_underLeast v_restMany v_restFirst v_layer v_cabman v_page v_seenCabman v_seenFinger v_seenOff v_seenCame v_shows) → va_S A s.heap H locs → lv_has ls 6 [(0, .ref a_p0), (1, .int x1), (2, .int x2), (3, .int x3), (4, .int x4)] → back_24 x1 x2 x3 x4 v_underMany v_underLeast v_shows = some res → W p l e (rm_ 2 (40 * 2)) s m args below meth c H locs 0 0 Q (F0 m 24 ls [])) (x1 : Int32) (x2 : Int32) (x4 : Int32) (w0 : Int32) (v_underMany : Int32) (v_underLeast : Int32) (v_shows : Nat → Int32) (H : Heap) (locs : List Loc) (ls : Array Slot), va_P D classes (cs_PM_findUnder cI cZ a_p0 a_layer a_cabman a_page a_seenCabman a_seenFinger a_seenOff a_seenCame a_shows z_text z_readLayer z_readCabman z_trial z_book z_kept z_isKept z_value v_thrown v_textSize v_place v_cabmen v_readCabmen v_acts v_seen v_seed v_bestCleaning v_bestLayers v_bestMany v_underMany v_underLeast v_restMany v_restFirst v_layer v_cabman v_page v_seenCabman v_seenFinger v_seenOff v_seenCame v_shows) H → va_D A (cs_PM_findUnder cI cZ a_p0 a_layer a_cabman a_page a_seenCabman a_seenFinger a_seenOff a_seenCame a_shows z_text z_readLayer z_readCabman z_trial z_book z_kept z_isKept z_value v_thrown v_textSize v_place v_cabmen v_readCabmen v_acts v_seen v_seed v_bestCleaning v_bestLayers v_bestMany v_underMany v_underLeast v_restMany v_restFirst v_layer v_cabman v_page v_seenCabman v_seenFinger v_seenOff v_seenCame v_shows) → va_S A s.heap H locs → lv_has ls 6 [(0, .ref a_p0), (1, .int x1), (2, .int x2), (4, .int x4)] → f_PM_findUnder_142 back_13 back_24 v_cabmen v_seen v_layer v_cabman v_page v_seenCabman v_seenFinger v_seenOff v_seenCame x1 x2 x4 w0 v_underMany v_underLeast v_shows = some res → W p l e (rm_ 2 (40 * 2)) s m args below meth c H locs 0 0 Q (F0 m 142 ls [.int w0]) := by
    intro back_13 K_13 back_24 K_24 x1 x2 x4 w0 v_underMany v_underLeast v_shows H locs ls hP hD hS hl hf
    unfold f_PM_findUnder_142 at hf
    refine lv_istore_n (lv' := [(3, .int w0), (0, .ref a_p0), (1, .int x1), (2, .int x2), (4, .int x4)]) hx hb d_PM_findUnder_142 rfl hl (by decide) rfl (fun ls hl => ?_)
    refine lv_iinc (v := x4 + 1) (lv' := [(4, .int (x4 + 1)), (3, .int w0), (0, .ref a_p0), (1, .int x1), (2, .int x2)]) hx hb d_PM_findUnder_143 hl (k := 4) rfl (rfl) (by decide) rfl (fun ls hl => ?_)
    refine lv_goto (tgt := 24) hx hb d_PM_findUnder_146 (by decide) ?_
    exact K_24 x1 x2 w0 (x4 + 1) v_underMany v_underLeast v_shows _ _ _ hP hD hS (lv_sub hl [2, 3, 4, 1, 0] rfl) hf
  have B_137 : ∀ (back_13 : Int32 → Int32 → Int32 → Int32 → (Nat → Int32) → Option (Int32 × Int32 × (Nat → Int32))) (K_13 : ∀ (x1 : Int32) (x2 : Int32) (v_underMany : Int32) (v_underLeast : Int32) (v_shows : Nat → Int32) (H : Heap) (locs : List Loc) (ls : Array Slot), va_P D classes (cs_PM_findUnder cI cZ a_p0 a_layer a_cabman a_page a_seenCabman a_seenFinger a_seenOff a_seenCame a_shows z_text z_readLayer z_readCabman z_trial z_book z_kept z_isKept z_value v_thrown v_textSize v_place v_cabmen v_readCabmen v_acts v_seen v_seed v_bestCleaning v_bestLayers v_bestMany v_underMany v_underLeast v_restMany v_restFirst v_layer v_cabman v_page v_seenCabman v_seenFinger v_seenOff v_seenCame v_shows) H → va_D A (cs_PM_findUnder cI cZ a_p0 a_layer a_cabman a_page a_seenCabman a_seenFinger a_seenOff a_seenCame a_shows z_text z_readLayer z_readCabman z_trial z_book z_kept z_isKept z_value v_thrown v_textSize v_place v_cabmen v_readCabmen v_acts v_seen v_seed v_bestCleaning v_bestLayers v_bestMany v_underMany v_underLeast v_restMany v_restFirst v_layer v_cabman v_page v_seenCabman v_seenFinger v_seenOff v_seenCame v_shows) → va_S A s.heap H locs → lv_has ls 6 [(0, .ref a_p0), (1, .int x1), (2, .int x2)] → back_13 x1 x2 v_underMany v_underLeast v_shows = some res → W p l e (rm_ 2 (40 * 2)) s m args below meth c H locs 0 0 Q (F0 m 13 ls [])) (back_24 : Int32 → Int32 → Int32 → Int32 → Int32 → Int32 → (Nat → Int32) → Option (Int32 × Int32 × (Nat → Int32))) (K_24 : ∀ (x1 : Int32) (x2 : Int32) (x3 : Int32) (x4 : Int32) (v_underMany : Int32) (v_underLeast : Int32) (v_shows : Nat → Int32) (H : Heap) (locs : List Loc) (ls : Array Slot), va_P D classes (cs_PM_findUnder cI cZ a_p0 a_layer a_cabman a_page a_seenCabman a_seenFinger a_seenOff a_seenCame a_shows z_text z_readLayer z_readCabman z_trial z_book z_kept z_isKept z_value v_thrown v_textSize v_place v_cabmen v_readCabmen v_acts v_seen v_seed v_bestCleaning v_bestLayers v_bestMany v_underMany v_underLeast v_restMany v_restFirst v_layer v_cabman v_page v_seenCabman v_seenFinger v_seenOff v_seenCame v_shows) H → va_D A (cs_PM_findUnder cI cZ a_p0 a_layer a_cabman a_page a_seenCabman a_seenFinger a_seenOff a_seenCame a_shows z_text z_readLayer z_readCabman z_trial z_book z_kept z_isKept z_value v_thrown v_textSize v_place v_cabmen v_readCabmen v_acts v_seen v_seed v_bestCleaning v_bestLayers v_bestMany v_underMany v_underLeast v_restMany v_restFirst v_layer v_cabman v_page v_seenCabman v_seenFinger v_seenOff v_seenCame v_shows) → va_S A s.heap H locs → lv_has ls 6 [(0, .ref a_p0), (1, .int x1), (2, .int x2), (3, .int x3), (4, .int x4)] → back_24 x1 x2 x3 x4 v_underMany v_underLeast v_shows = some res → W p l e (rm_ 2 (40 * 2)) s m args below meth c H locs 0 0 Q (F0 m 24 ls [])) (x1 : Int32) (x2 : Int32) (x4 : Int32) (v_underMany : Int32) (v_underLeast : Int32) (v_shows : Nat → Int32) (H : Heap) (locs : List Loc) (ls : Array Slot), va_P D classes (cs_PM_findUnder cI cZ a_p0 a_layer a_cabman a_page a_seenCabman a_seenFinger a_seenOff a_seenCame a_shows z_text z_readLayer z_readCabman z_trial z_book z_kept z_isKept z_value v_thrown v_textSize v_place v_cabmen v_readCabmen v_acts v_seen v_seed v_bestCleaning v_bestLayers v_bestMany v_underMany v_underLeast v_restMany v_restFirst v_layer v_cabman v_page v_seenCabman v_seenFinger v_seenOff v_seenCame v_shows) H → va_D A (cs_PM_findUnder cI cZ a_p0 a_layer a_cabman a_page a_seenCabman a_seenFinger a_seenOff a_seenCame a_shows z_text z_readLayer z_readCabman z_trial z_book z_kept z_isKept z_value v_thrown v_textSize v_place v_cabmen v_readCabmen v_acts v_seen v_seed v_bestCleaning v_bestLayers v_bestMany v_underMany v_underLeast v_restMany v_restFirst v_layer v_cabman v_page v_seenCabman v_seenFinger v_seenOff v_seenCame v_shows) → va_S A s.heap H locs → lv_has ls 6 [(0, .ref a_p0), (1, .int x1), (2, .int x2), (4, .int x4)] → f_PM_findUnder_137 back_13 back_24 v_cabmen v_seen v_layer v_cabman v_page v_seenCabman v_seenFinger v_seenOff v_seenCame x1 x2 x4 v_underMany v_underLeast v_shows = some res → W p l e (rm_ 2 (40 * 2)) s m args below meth c H locs 0 0 Q (F0 m 137 ls []) := by
    intro back_13 K_13 back_24 K_24 x1 x2 x4 v_underMany v_underLeast v_shows H locs ls hP hD hS hl hf
    unfold f_PM_findUnder_137 at hf
    refine lv_iconst (v := 1) hx hb d_PM_findUnder_137 (by decide) ?_
    refine lv_goto (tgt := 142) hx hb d_PM_findUnder_138 (by decide) ?_
    exact B_142 back_13 K_13 back_24 K_24 x1 x2 x4 1 v_underMany v_underLeast v_shows _ _ _ hP hD hS (lv_sub hl [0, 1, 2, 3] rfl) hf
  have B_134 : ∀ (back_13 : Int32 → Int32 → Int32 → Int32 → (Nat → Int32) → Option (Int32 × Int32 × (Nat → Int32))) (K_13 : ∀ (x1 : Int32) (x2 : Int32) (v_underMany : Int32) (v_underLeast : Int32) (v_shows : Nat → Int32) (H : Heap) (locs : List Loc) (ls : Array Slot), va_P D classes (cs_PM_findUnder cI cZ a_p0 a_layer a_cabman a_page a_seenCabman a_seenFinger a_seenOff a_seenCame a_shows z_text z_readLayer z_readCabman z_trial z_book z_kept z_isKept z_value v_thrown v_textSize v_place v_cabmen v_readCabmen v_acts v_seen v_seed v_bestCleaning v_bestLayers v_bestMany v_underMany v_underLeast v_restMany v_restFirst v_layer v_cabman v_page v_seenCabman v_seenFinger v_seenOff v_seenCame v_shows) H → va_D A (cs_PM_findUnder cI cZ a_p0 a_layer a_cabman a_page a_seenCabman a_seenFinger a_seenOff a_seenCame a_shows z_text z_readLayer z_readCabman z_trial z_book z_kept z_isKept z_value v_thrown v_textSize v_place v_cabmen v_readCabmen v_acts v_seen v_seed v_bestCleaning v_bestLayers v_bestMany v_underMany v_underLeast v_restMany v_restFirst v_layer v_cabman v_page v_seenCabman v_seenFinger v_seenOff v_seenCame v_shows) → va_S A s.heap H locs → lv_has ls 6 [(0, .ref a_p0), (1, .int x1), (2, .int x2)] → back_13 x1 x2 v_underMany v_underLeast v_shows = some res → W p l e (rm_ 2 (40 * 2)) s m args below meth c H locs 0 0 Q (F0 m 13 ls [])) (back_24 : Int32 → Int32 → Int32 → Int32 → Int32 → Int32 → (Nat → Int32) → Option (Int32 × Int32 × (Nat → Int32))) (K_24 : ∀ (x1 : Int32) (x2 : Int32) (x3 : Int32) (x4 : Int32) (v_underMany : Int32) (v_underLeast : Int32) (v_shows : Nat → Int32) (H : Heap) (locs : List Loc) (ls : Array Slot), va_P D classes (cs_PM_findUnder cI cZ a_p0 a_layer a_cabman a_page a_seenCabman a_seenFinger a_seenOff a_seenCame a_shows z_text z_readLayer z_readCabman z_trial z_book z_kept z_isKept z_value v_thrown v_textSize v_place v_cabmen v_readCabmen v_acts v_seen v_seed v_bestCleaning v_bestLayers v_bestMany v_underMany v_underLeast v_restMany v_restFirst v_layer v_cabman v_page v_seenCabman v_seenFinger v_seenOff v_seenCame v_shows) H → va_D A (cs_PM_findUnder cI cZ a_p0 a_layer a_cabman a_page a_seenCabman a_seenFinger a_seenOff a_seenCame a_shows z_text z_readLayer z_readCabman z_trial z_book z_kept z_isKept z_value v_thrown v_textSize v_place v_cabmen v_readCabmen v_acts v_seen v_seed v_bestCleaning v_bestLayers v_bestMany v_underMany v_underLeast v_restMany v_restFirst v_layer v_cabman v_page v_seenCabman v_seenFinger v_seenOff v_seenCame v_shows) → va_S A s.heap H locs → lv_has ls 6 [(0, .ref a_p0), (1, .int x1), (2, .int x2), (3, .int x3), (4, .int x4)] → back_24 x1 x2 x3 x4 v_underMany v_underLeast v_shows = some res → W p l e (rm_ 2 (40 * 2)) s m args below meth c H locs 0 0 Q (F0 m 24 ls [])) (x1 : Int32) (x2 : Int32) (x4 : Int32) (w0 : Int32) (w1 : Int32) (v_underMany : Int32) (v_underLeast : Int32) (v_shows : Nat → Int32) (H : Heap) (locs : List Loc) (ls : Array Slot), va_P D classes (cs_PM_findUnder cI cZ a_p0 a_layer a_cabman a_page a_seenCabman a_seenFinger a_seenOff a_seenCame a_shows z_text z_readLayer z_readCabman z_trial z_book z_kept z_isKept z_value v_thrown v_textSize v_place v_cabmen v_readCabmen v_acts v_seen v_seed v_bestCleaning v_bestLayers v_bestMany v_underMany v_underLeast v_restMany v_restFirst v_layer v_cabman v_page v_seenCabman v_seenFinger v_seenOff v_seenCame v_shows) H → va_D A (cs_PM_findUnder cI cZ a_p0 a_layer a_cabman a_page a_seenCabman a_seenFinger a_seenOff a_seenCame a_shows z_text z_readLayer z_readCabman z_trial z_book z_kept z_isKept z_value v_thrown v_textSize v_place v_cabmen v_readCabmen v_acts v_seen v_seed v_bestCleaning v_bestLayers v_bestMany v_underMany v_underLeast v_restMany v_restFirst v_layer v_cabman v_page v_seenCabman v_seenFinger v_seenOff v_seenCame v_shows) → va_S A s.heap H locs → lv_has ls 6 [(0, .ref a_p0), (1, .int x1), (2, .int x2), (4, .int x4)] → f_PM_findUnder_134 back_13 back_24 v_cabmen v_seen v_layer v_cabman v_page v_seenCabman v_seenFinger v_seenOff v_seenCame x1 x2 x4 w0 w1 v_underMany v_underLeast v_shows = some res → W p l e (rm_ 2 (40 * 2)) s m args below meth c H locs 0 0 Q (F0 m 134 ls [.int w1, .int w0]) := by
    intro back_13 K_13 back_24 K_24 x1 x2 x4 w0 w1 v_underMany v_underLeast v_shows H locs ls hP hD hS hl hf
    unfold f_PM_findUnder_134 at hf
    refine lv_icmp_ne (tgt := 141) hx hb d_PM_findUnder_134 (by decide) (fun c1 => ?_) (fun c1 => ?_)
    · have hf := o_neg c1 hf
      refine lv_iconst (v := 0) hx hb d_PM_findUnder_141 (by decide) ?_
      exact B_142 back_13 K_13 back_24 K_24 x1 x2 x4 0 v_underMany v_underLeast v_shows _ _ _ hP hD hS (lv_sub hl [0, 1, 2, 3] rfl) hf
    · have hf := o_pos c1 hf
      exact B_137 back_13 K_13 back_24 K_24 x1 x2 x4 v_underMany v_underLeast v_shows _ _ _ hP hD hS (lv_sub hl [0, 1, 2, 3] rfl) hf
  have B_67 : ∀ (back_13 : Int32 → Int32 → Int32 → Int32 → (Nat → Int32) → Option (Int32 × Int32 × (Nat → Int32))) (K_13 : ∀ (x1 : Int32) (x2 : Int32) (v_underMany : Int32) (v_underLeast : Int32) (v_shows : Nat → Int32) (H : Heap) (locs : List Loc) (ls : Array Slot), va_P D classes (cs_PM_findUnder cI cZ a_p0 a_layer a_cabman a_page a_seenCabman a_seenFinger a_seenOff a_seenCame a_shows z_text z_readLayer z_readCabman z_trial z_book z_kept z_isKept z_value v_thrown v_textSize v_place v_cabmen v_readCabmen v_acts v_seen v_seed v_bestCleaning v_bestLayers v_bestMany v_underMany v_underLeast v_restMany v_restFirst v_layer v_cabman v_page v_seenCabman v_seenFinger v_seenOff v_seenCame v_shows) H → va_D A (cs_PM_findUnder cI cZ a_p0 a_layer a_cabman a_page a_seenCabman a_seenFinger a_seenOff a_seenCame a_shows z_text z_readLayer z_readCabman z_trial z_book z_kept z_isKept z_value v_thrown v_textSize v_place v_cabmen v_readCabmen v_acts v_seen v_seed v_bestCleaning v_bestLayers v_bestMany v_underMany v_underLeast v_restMany v_restFirst v_layer v_cabman v_page v_seenCabman v_seenFinger v_seenOff v_seenCame v_shows) → va_S A s.heap H locs → lv_has ls 6 [(0, .ref a_p0), (1, .int x1), (2, .int x2)] → back_13 x1 x2 v_underMany v_underLeast v_shows = some res → W p l e (rm_ 2 (40 * 2)) s m args below meth c H locs 0 0 Q (F0 m 13 ls [])) (back_24 : Int32 → Int32 → Int32 → Int32 → Int32 → Int32 → (Nat → Int32) → Option (Int32 × Int32 × (Nat → Int32))) (K_24 : ∀ (x1 : Int32) (x2 : Int32) (x3 : Int32) (x4 : Int32) (v_underMany : Int32) (v_underLeast : Int32) (v_shows : Nat → Int32) (H : Heap) (locs : List Loc) (ls : Array Slot), va_P D classes (cs_PM_findUnder cI cZ a_p0 a_layer a_cabman a_page a_seenCabman a_seenFinger a_seenOff a_seenCame a_shows z_text z_readLayer z_readCabman z_trial z_book z_kept z_isKept z_value v_thrown v_textSize v_place v_cabmen v_readCabmen v_acts v_seen v_seed v_bestCleaning v_bestLayers v_bestMany v_underMany v_underLeast v_restMany v_restFirst v_layer v_cabman v_page v_seenCabman v_seenFinger v_seenOff v_seenCame v_shows) H → va_D A (cs_PM_findUnder cI cZ a_p0 a_layer a_cabman a_page a_seenCabman a_seenFinger a_seenOff a_seenCame a_shows z_text z_readLayer z_readCabman z_trial z_book z_kept z_isKept z_value v_thrown v_textSize v_place v_cabmen v_readCabmen v_acts v_seen v_seed v_bestCleaning v_bestLayers v_bestMany v_underMany v_underLeast v_restMany v_restFirst v_layer v_cabman v_page v_seenCabman v_seenFinger v_seenOff v_seenCame v_shows) → va_S A s.heap H locs → lv_has ls 6 [(0, .ref a_p0), (1, .int x1), (2, .int x2), (3, .int x3), (4, .int x4)] → back_24 x1 x2 x3 x4 v_underMany v_underLeast v_shows = some res → W p l e (rm_ 2 (40 * 2)) s m args below meth c H locs 0 0 Q (F0 m 24 ls [])) (x1 : Int32) (x2 : Int32) (x4 : Int32) (w0 : Int32) (v_underMany : Int32) (v_underLeast : Int32) (v_shows : Nat → Int32) (H : Heap) (locs : List Loc) (ls : Array Slot), va_P D classes (cs_PM_findUnder cI cZ a_p0 a_layer a_cabman a_page a_seenCabman a_seenFinger a_seenOff a_seenCame a_shows z_text z_readLayer z_readCabman z_trial z_book z_kept z_isKept z_value v_thrown v_textSize v_place v_cabmen v_readCabmen v_acts v_seen v_seed v_bestCleaning v_bestLayers v_bestMany v_underMany v_underLeast v_restMany v_restFirst v_layer v_cabman v_page v_seenCabman v_seenFinger v_seenOff v_seenCame v_shows) H → va_D A (cs_PM_findUnder cI cZ a_p0 a_layer a_cabman a_page a_seenCabman a_seenFinger a_seenOff a_seenCame a_shows z_text z_readLayer z_readCabman z_trial z_book z_kept z_isKept z_value v_thrown v_textSize v_place v_cabmen v_readCabmen v_acts v_seen v_seed v_bestCleaning v_bestLayers v_bestMany v_underMany v_underLeast v_restMany v_restFirst v_layer v_cabman v_page v_seenCabman v_seenFinger v_seenOff v_seenCame v_shows) → va_S A s.heap H locs → lv_has ls 6 [(0, .ref a_p0), (1, .int x1), (2, .int x2), (4, .int x4)] → f_PM_findUnder_67 back_13 back_24 v_cabmen v_seen v_layer v_cabman v_page v_seenCabman v_seenFinger v_seenOff v_seenCame x1 x2 x4 w0 v_underMany v_underLeast v_shows = some res → W p l e (rm_ 2 (40 * 2)) s m args below meth c H locs 0 0 Q (F0 m 67 ls [.int w0]) := by
    intro back_13 K_13 back_24 K_24 x1 x2 x4 w0 v_underMany v_underLeast v_shows H locs ls hP hD hS hl hf
    unfold f_PM_findUnder_67 at hf
    refine lv_istore (lv' := [(5, .int w0), (0, .ref a_p0), (1, .int x1), (2, .int x2), (4, .int x4)]) hx hb d_PM_findUnder_67 hl (by decide) rfl (fun ls hl => ?_)
    refine lv_aload_n hx hb d_PM_findUnder_69 rfl (lv_at hl 1 rfl) ?_
    refine lv_aload_n hx hb d_PM_findUnder_70 rfl (lv_at hl 1 rfl) ?_
    refine gf_PM_25 hC hP 0 rfl rfl d_PM_findUnder_71 ?_
    obtain ⟨r1, h2, hf⟩ := o_bind hf
    refine cVv (rest := []) (wr := [(a_cabman, .inl (cI, 30, .inl v_cabman)), (a_seenCabman, .inl (cI, 6, .inl v_seenCabman)), (a_seenFinger, .inl (cI, 6, .inl v_seenFinger)), (a_seenOff, .inl (cI, 6, .inl v_seenOff)), (a_seenCame, .inl (cI, 6, .inl v_seenCame))]) (wn := (cs_PM_findUnder cI cZ a_p0 a_layer a_cabman a_page a_seenCabman a_seenFinger a_seenOff a_seenCame a_shows z_text z_readLayer z_readCabman z_trial z_book z_kept z_isKept z_value v_thrown v_textSize v_place v_cabmen v_readCabmen v_acts v_seen v_seed v_bestCleaning v_bestLayers v_bestMany v_underMany v_underLeast v_restMany v_restFirst v_layer v_cabman v_page v_seenCabman v_seenFinger v_seenOff v_seenCame r1)) (c_PM_layShown l D cI cZ a_p0 a_layer a_shows a_page z_text a_cabman z_readLayer z_readCabman a_page z_trial z_book z_kept z_isKept a_seenCabman a_seenFinger a_seenOff a_seenCame z_value v_thrown v_textSize v_place v_cabmen v_readCabmen v_acts v_seen v_seed v_bestCleaning v_bestLayers v_bestMany v_underMany v_underLeast v_restMany v_restFirst v_layer v_shows v_page r1 h2) hC hA hP hD hS hl.1 cw_PM_112 0 rfl rfl rfl ⟨Nat.le_of_ble_eq_true rfl, Nat.le_of_ble_eq_true rfl⟩ rfl rfl (Nat.le_of_ble_eq_true rfl) d_PM_findUnder_74 ⟨Nat.zero_le _, Nat.zero_le _⟩ [0, 1, 8, 3] [2, 4, 5, 6, 7] [5, 6, 0, 8, 1, 2, 3, 4, 7] (by decide) (Cut_mk rfl rfl (by decide) (by decide) (by decide) rfl) (fun H locs hP hD hS => ?_)
    refine lv_aload_n hx hb d_PM_findUnder_77 rfl (lv_at hl 1 rfl) ?_
    refine gf_PM_56 hC hP 0 rfl rfl d_PM_findUnder_78 ?_
    refine lv_iload_n hx hb d_PM_findUnder_81 rfl (lv_at hl 2 rfl) ?_
    refine lv_iload_n hx hb d_PM_findUnder_82 rfl (lv_at hl 3 rfl) ?_
    refine lv_iconst (v := 3) hx hb d_PM_findUnder_83 (by decide) ?_
    refine lv_iconst (v := 2) hx hb d_PM_findUnder_84 (by decide) ?_
    refine lv_aload_n hx hb d_PM_findUnder_85 rfl (lv_at hl 1 rfl) ?_
    refine gf_PM_47 hC hP 0 rfl rfl d_PM_findUnder_86 ?_
    refine lv_iload hx hb d_PM_findUnder_89 (lv_at hl 4 rfl) ?_
    obtain ⟨v3, h4, hf⟩ := o_bind hf
    refine r_iald hC hP 6 rfl h4 d_PM_findUnder_91 ?_
    refine lv_isub hx hb d_PM_findUnder_92 ?_
    obtain ⟨r5, h6, hf⟩ := o_bind hf
    refine cSi0 (rest := [.int x2, .int x1, .ref a_shows]) (c_PM_power l D cI cZ 3 (2 - v3) r5 h6) hC hA hP hD hS hl.1 cw_PM_150 ⟨Nat.le_of_ble_eq_true rfl, Nat.le_of_ble_eq_true rfl⟩ rfl rfl (Nat.le_of_ble_eq_true rfl) d_PM_findUnder_93 ⟨Nat.zero_le _, Nat.zero_le _⟩ (fun H locs hP hS => ?_)
    obtain ⟨h7, hf⟩ := o_itn hf
    refine lv_idiv hx hb d_PM_findUnder_96 h7 ?_
    refine lv_iconst (v := 3) hx hb d_PM_findUnder_97 (by decide) ?_
    refine lv_irem hx hb d_PM_findUnder_98 (by decide) ?_
    obtain ⟨g8, h9, hf⟩ := o_bind hf
    refine r_iast hC hP hD hS 8 rfl h9 d_PM_findUnder_99 (fun H locs hP hD hS => ?_)
    have hP : va_P D classes (cs_PM_findUnder cI cZ a_p0 a_layer a_cabman a_page a_seenCabman a_seenFinger a_seenOff a_seenCame a_shows z_text z_readLayer z_readCabman z_trial z_book z_kept z_isKept z_value v_thrown v_textSize v_place v_cabmen v_readCabmen v_acts v_seen v_seed v_bestCleaning v_bestLayers v_bestMany v_underMany v_underLeast v_restMany v_restFirst v_layer v_cabman v_page v_seenCabman v_seenFinger v_seenOff v_seenCame g8) H := hP
    have hD : va_D A (cs_PM_findUnder cI cZ a_p0 a_layer a_cabman a_page a_seenCabman a_seenFinger a_seenOff a_seenCame a_shows z_text z_readLayer z_readCabman z_trial z_book z_kept z_isKept z_value v_thrown v_textSize v_place v_cabmen v_readCabmen v_acts v_seen v_seed v_bestCleaning v_bestLayers v_bestMany v_underMany v_underLeast v_restMany v_restFirst v_layer v_cabman v_page v_seenCabman v_seenFinger v_seenOff v_seenCame g8) := hD
    refine lv_iload hx hb d_PM_findUnder_100 (lv_at hl 0 rfl) ?_
    refine lv_if_eq (tgt := 137) hx hb d_PM_findUnder_102 (by decide) (fun c10 => ?_) (fun c10 => ?_)
    · have hf := o_pos c10 hf
      exact B_137 back_13 K_13 back_24 K_24 x1 x2 x4 v_underMany v_underLeast g8 _ _ _ hP hD hS (lv_sub hl [1, 2, 3, 4] rfl) hf
    · have hf := o_neg c10 hf
      refine lv_aload_n hx hb d_PM_findUnder_105 rfl (lv_at hl 1 rfl) ?_
      refine lv_aload_n hx hb d_PM_findUnder_106 rfl (lv_at hl 1 rfl) ?_
      refine gf_PM_41 hC hP 0 rfl rfl d_PM_findUnder_107 ?_
      refine lv_iload hx hb d_PM_findUnder_110 (lv_at hl 4 rfl) ?_
      obtain ⟨v11, h12, hf⟩ := o_bind hf
      refine r_iald hC hP 4 rfl h12 d_PM_findUnder_112 ?_
      refine lv_bipush (v := 15) hx hb d_PM_findUnder_113 (by decide) ?_
      obtain ⟨r13, h14, hf⟩ := o_bind hf
      refine cVi (rest := []) (wr := [(a_layer, .inl (cI, 12, .inl v_layer)), (a_page, .inl (cI, 16, .inl v_page)), (a_seenCabman, .inl (cI, 6, .inl v_seenCabman)), (a_seenFinger, .inl (cI, 6, .inl v_seenFinger)), (a_seenOff, .inl (cI, 6, .inl v_seenOff)), (a_seenCame, .inl (cI, 6, .inl v_seenCame))]) (wn := (cs_PM_findUnder cI cZ a_p0 a_layer a_cabman a_page a_seenCabman a_seenFinger a_seenOff a_seenCame a_shows z_text z_readLayer z_readCabman z_trial z_book z_kept z_isKept z_value v_thrown v_textSize v_place v_cabmen v_readCabmen v_acts v_seen v_seed v_bestCleaning v_bestLayers v_bestMany v_underMany v_underLeast v_restMany v_restFirst v_layer v_cabman v_page v_seenCabman v_seenFinger v_seenOff v_seenCame g8)) (c_PM_isCalled l D cI cZ a_p0 a_cabman a_shows z_text a_layer z_readLayer z_readCabman a_page z_trial z_book z_kept z_isKept a_seenCabman a_seenFinger a_seenOff a_seenCame z_value v11 15 v_thrown v_textSize v_place v_cabmen v_readCabmen v_acts v_seen v_seed v_bestCleaning v_bestLayers v_bestMany v_underMany v_underLeast v_restMany v_restFirst v_cabman g8 r13 h14) hC hA hP hD hS hl.1 cw_PM_109 0 rfl rfl rfl ⟨Nat.le_of_ble_eq_true rfl, Nat.le_of_ble_eq_true rfl⟩ rfl rfl (Nat.le_of_ble_eq_true rfl) d_PM_findUnder_115 ⟨Nat.zero_le _, Nat.zero_le _⟩ [0, 2, 8] [1, 3, 4, 5, 6, 7] [6, 0, 7, 1, 2, 3, 4, 5, 8] (by decide) (Cut_mk rfl rfl (by decide) (by decide) (by decide) rfl) (fun H locs hP hD hS => ?_)
      refine lv_aload_n hx hb d_PM_findUnder_118 rfl (lv_at hl 1 rfl) ?_
      refine gf_PM_50 hC hP 0 rfl rfl d_PM_findUnder_119 ?_
      refine lv_iload hx hb d_PM_findUnder_122 (lv_at hl 4 rfl) ?_
      obtain ⟨v15, h16, hf⟩ := o_bind hf
      refine r_iald hC hP 7 rfl h16 d_PM_findUnder_124 ?_
      refine lv_iconst (v := 1) hx hb d_PM_findUnder_125 (by decide) ?_
      refine lv_icmp_ne (tgt := 133) hx hb d_PM_findUnder_126 (by decide) (fun c17 => ?_) (fun c17 => ?_)
      · have hf := o_neg c17 hf
        refine lv_iconst (v := 0) hx hb d_PM_findUnder_133 (by decide) ?_
        exact B_134 back_13 K_13 back_24 K_24 x1 x2 x4 r13 0 v_underMany v_underLeast g8 _ _ _ hP hD hS (lv_sub hl [1, 2, 3, 4] rfl) hf
      · have hf := o_pos c17 hf
        refine lv_iconst (v := 1) hx hb d_PM_findUnder_129 (by decide) ?_
        refine lv_goto (tgt := 134) hx hb d_PM_findUnder_130 (by decide) ?_
        exact B_134 back_13 K_13 back_24 K_24 x1 x2 x4 r13 1 v_underMany v_underLeast g8 _ _ _ hP hD hS (lv_sub hl [1, 2, 3, 4] rfl) hf
  have B_66 : ∀ (back_13 : Int32 → Int32 → Int32 → Int32 → (Nat → Int32) → Option (Int32 × Int32 × (Nat → Int32))) (K_13 : ∀ (x1 : Int32) (x2 : Int32) (v_underMany : Int32) (v_underLeast : Int32) (v_shows : Nat → Int32) (H : Heap) (locs : List Loc) (ls : Array Slot), va_P D classes (cs_PM_findUnder cI cZ a_p0 a_layer a_cabman a_page a_seenCabman a_seenFinger a_seenOff a_seenCame a_shows z_text z_readLayer z_readCabman z_trial z_book z_kept z_isKept z_value v_thrown v_textSize v_place v_cabmen v_readCabmen v_acts v_seen v_seed v_bestCleaning v_bestLayers v_bestMany v_underMany v_underLeast v_restMany v_restFirst v_layer v_cabman v_page v_seenCabman v_seenFinger v_seenOff v_seenCame v_shows) H → va_D A (cs_PM_findUnder cI cZ a_p0 a_layer a_cabman a_page a_seenCabman a_seenFinger a_seenOff a_seenCame a_shows z_text z_readLayer z_readCabman z_trial z_book z_kept z_isKept z_value v_thrown v_textSize v_place v_cabmen v_readCabmen v_acts v_seen v_seed v_bestCleaning v_bestLayers v_bestMany v_underMany v_underLeast v_restMany v_restFirst v_layer v_cabman v_page v_seenCabman v_seenFinger v_seenOff v_seenCame v_shows) → va_S A s.heap H locs → lv_has ls 6 [(0, .ref a_p0), (1, .int x1), (2, .int x2)] → back_13 x1 x2 v_underMany v_underLeast v_shows = some res → W p l e (rm_ 2 (40 * 2)) s m args below meth c H locs 0 0 Q (F0 m 13 ls [])) (back_24 : Int32 → Int32 → Int32 → Int32 → Int32 → Int32 → (Nat → Int32) → Option (Int32 × Int32 × (Nat → Int32))) (K_24 : ∀ (x1 : Int32) (x2 : Int32) (x3 : Int32) (x4 : Int32) (v_underMany : Int32) (v_underLeast : Int32) (v_shows : Nat → Int32) (H : Heap) (locs : List Loc) (ls : Array Slot), va_P D classes (cs_PM_findUnder cI cZ a_p0 a_layer a_cabman a_page a_seenCabman a_seenFinger a_seenOff a_seenCame a_shows z_text z_readLayer z_readCabman z_trial z_book z_kept z_isKept z_value v_thrown v_textSize v_place v_cabmen v_readCabmen v_acts v_seen v_seed v_bestCleaning v_bestLayers v_bestMany v_underMany v_underLeast v_restMany v_restFirst v_layer v_cabman v_page v_seenCabman v_seenFinger v_seenOff v_seenCame v_shows) H → va_D A (cs_PM_findUnder cI cZ a_p0 a_layer a_cabman a_page a_seenCabman a_seenFinger a_seenOff a_seenCame a_shows z_text z_readLayer z_readCabman z_trial z_book z_kept z_isKept z_value v_thrown v_textSize v_place v_cabmen v_readCabmen v_acts v_seen v_seed v_bestCleaning v_bestLayers v_bestMany v_underMany v_underLeast v_restMany v_restFirst v_layer v_cabman v_page v_seenCabman v_seenFinger v_seenOff v_seenCame v_shows) → va_S A s.heap H locs → lv_has ls 6 [(0, .ref a_p0), (1, .int x1), (2, .int x2), (3, .int x3), (4, .int x4)] → back_24 x1 x2 x3 x4 v_underMany v_underLeast v_shows = some res → W p l e (rm_ 2 (40 * 2)) s m args below meth c H locs 0 0 Q (F0 m 24 ls [])) (x1 : Int32) (x2 : Int32) (x4 : Int32) (v_underMany : Int32) (v_underLeast : Int32) (v_shows : Nat → Int32) (H : Heap) (locs : List Loc) (ls : Array Slot), va_P D classes (cs_PM_findUnder cI cZ a_p0 a_layer a_cabman a_page a_seenCabman a_seenFinger a_seenOff a_seenCame a_shows z_text z_readLayer z_readCabman z_trial z_book z_kept z_isKept z_value v_thrown v_textSize v_place v_cabmen v_readCabmen v_acts v_seen v_seed v_bestCleaning v_bestLayers v_bestMany v_underMany v_underLeast v_restMany v_restFirst v_layer v_cabman v_page v_seenCabman v_seenFinger v_seenOff v_seenCame v_shows) H → va_D A (cs_PM_findUnder cI cZ a_p0 a_layer a_cabman a_page a_seenCabman a_seenFinger a_seenOff a_seenCame a_shows z_text z_readLayer z_readCabman z_trial z_book z_kept z_isKept z_value v_thrown v_textSize v_place v_cabmen v_readCabmen v_acts v_seen v_seed v_bestCleaning v_bestLayers v_bestMany v_underMany v_underLeast v_restMany v_restFirst v_layer v_cabman v_page v_seenCabman v_seenFinger v_seenOff v_seenCame v_shows) → va_S A s.heap H locs → lv_has ls 6 [(0, .ref a_p0), (1, .int x1), (2, .int x2), (4, .int x4)] → f_PM_findUnder_66 back_13 back_24 v_cabmen v_seen v_layer v_cabman v_page v_seenCabman v_seenFinger v_seenOff v_seenCame x1 x2 x4 v_underMany v_underLeast v_shows = some res → W p l e (rm_ 2 (40 * 2)) s m args below meth c H locs 0 0 Q (F0 m 66 ls []) := by
    intro back_13 K_13 back_24 K_24 x1 x2 x4 v_underMany v_underLeast v_shows H locs ls hP hD hS hl hf
    unfold f_PM_findUnder_66 at hf
    refine lv_iconst (v := 0) hx hb d_PM_findUnder_66 (by decide) ?_
    exact B_67 back_13 K_13 back_24 K_24 x1 x2 x4 0 v_underMany v_underLeast v_shows _ _ _ hP hD hS (lv_sub hl [0, 1, 2, 3] rfl) hf
  have B_24 : ∀ (back_13 : Int32 → Int32 → Int32 → Int32 → (Nat → Int32) → Option (Int32 × Int32 × (Nat → Int32))) (K_13 : ∀ (x1 : Int32) (x2 : Int32) (v_underMany : Int32) (v_underLeast : Int32) (v_shows : Nat → Int32) (H : Heap) (locs : List Loc) (ls : Array Slot), va_P D classes (cs_PM_findUnder cI cZ a_p0 a_layer a_cabman a_page a_seenCabman a_seenFinger a_seenOff a_seenCame a_shows z_text z_readLayer z_readCabman z_trial z_book z_kept z_isKept z_value v_thrown v_textSize v_place v_cabmen v_readCabmen v_acts v_seen v_seed v_bestCleaning v_bestLayers v_bestMany v_underMany v_underLeast v_restMany v_restFirst v_layer v_cabman v_page v_seenCabman v_seenFinger v_seenOff v_seenCame v_shows) H → va_D A (cs_PM_findUnder cI cZ a_p0 a_layer a_cabman a_page a_seenCabman a_seenFinger a_seenOff a_seenCame a_shows z_text z_readLayer z_readCabman z_trial z_book z_kept z_isKept z_value v_thrown v_textSize v_place v_cabmen v_readCabmen v_acts v_seen v_seed v_bestCleaning v_bestLayers v_bestMany v_underMany v_underLeast v_restMany v_restFirst v_layer v_cabman v_page v_seenCabman v_seenFinger v_seenOff v_seenCame v_shows) → va_S A s.heap H locs → lv_has ls 6 [(0, .ref a_p0), (1, .int x1), (2, .int x2)] → back_13 x1 x2 v_underMany v_underLeast v_shows = some res → W p l e (rm_ 2 (40 * 2)) s m args below meth c H locs 0 0 Q (F0 m 13 ls [])) (n : Nat) (x1 : Int32) (x2 : Int32) (x3 : Int32) (x4 : Int32) (v_underMany : Int32) (v_underLeast : Int32) (v_shows : Nat → Int32) (H : Heap) (locs : List Loc) (ls : Array Slot), va_P D classes (cs_PM_findUnder cI cZ a_p0 a_layer a_cabman a_page a_seenCabman a_seenFinger a_seenOff a_seenCame a_shows z_text z_readLayer z_readCabman z_trial z_book z_kept z_isKept z_value v_thrown v_textSize v_place v_cabmen v_readCabmen v_acts v_seen v_seed v_bestCleaning v_bestLayers v_bestMany v_underMany v_underLeast v_restMany v_restFirst v_layer v_cabman v_page v_seenCabman v_seenFinger v_seenOff v_seenCame v_shows) H → va_D A (cs_PM_findUnder cI cZ a_p0 a_layer a_cabman a_page a_seenCabman a_seenFinger a_seenOff a_seenCame a_shows z_text z_readLayer z_readCabman z_trial z_book z_kept z_isKept z_value v_thrown v_textSize v_place v_cabmen v_readCabmen v_acts v_seen v_seed v_bestCleaning v_bestLayers v_bestMany v_underMany v_underLeast v_restMany v_restFirst v_layer v_cabman v_page v_seenCabman v_seenFinger v_seenOff v_seenCame v_shows) → va_S A s.heap H locs → lv_has ls 6 [(0, .ref a_p0), (1, .int x1), (2, .int x2), (3, .int x3), (4, .int x4)] → f_PM_findUnder_24 back_13 v_cabmen v_seen v_layer v_cabman v_page v_seenCabman v_seenFinger v_seenOff v_seenCame n x1 x2 x3 x4 v_underMany v_underLeast v_shows = some res → W p l e (rm_ 2 (40 * 2)) s m args below meth c H locs 0 0 Q (F0 m 24 ls []) := by
    intro back_13 K_13 n
    induction n with
    | zero => intro x1 x2 x3 x4 v_underMany v_underLeast v_shows H locs ls hP hD hS hl hf; exact nomatch hf
    | succ n ih =>
      intro x1 x2 x3 x4 v_underMany v_underLeast v_shows H locs ls hP hD hS hl hf
      have hf : f_PM_findUnder_24_b back_13 (f_PM_findUnder_24 back_13 v_cabmen v_seen v_layer v_cabman v_page v_seenCabman v_seenFinger v_seenOff v_seenCame n) v_cabmen v_seen v_layer v_cabman v_page v_seenCabman v_seenFinger v_seenOff v_seenCame x1 x2 x3 x4 v_underMany v_underLeast v_shows = some res := hf
      generalize f_PM_findUnder_24 back_13 v_cabmen v_seen v_layer v_cabman v_page v_seenCabman v_seenFinger v_seenOff v_seenCame n = back_24 at ih hf
      have K_24 := ih
      unfold f_PM_findUnder_24_b at hf
      refine lv_iload hx hb d_PM_findUnder_24 (lv_at hl 4 rfl) ?_
      refine lv_aload_n hx hb d_PM_findUnder_26 rfl (lv_at hl 0 rfl) ?_
      refine gf_PM_124 hC hP 0 rfl rfl d_PM_findUnder_27 ?_
      refine lv_icmp_ge (tgt := 149) hx hb d_PM_findUnder_30 (by decide) (fun c1 => ?_) (fun c1 => ?_)
      · have hf := o_pos c1 hf
        exact B_149 back_13 K_13 x1 x2 x3 v_underMany v_underLeast v_shows _ _ _ hP hD hS (lv_sub hl [0, 1, 2, 3] rfl) hf
      · have hf := o_neg c1 hf
        refine lv_iload_n hx hb d_PM_findUnder_33 rfl (lv_at hl 3 rfl) ?_
        refine lv_if_eq (tgt := 149) hx hb d_PM_findUnder_34 (by decide) (fun c2 => ?_) (fun c2 => ?_)
        · have hf := o_pos c2 hf
          exact B_149 back_13 K_13 x1 x2 x3 v_underMany v_underLeast v_shows _ _ _ hP hD hS (lv_sub hl [0, 1, 2, 3] rfl) hf
        · have hf := o_neg c2 hf
          refine lv_aload_n hx hb d_PM_findUnder_37 rfl (lv_at hl 0 rfl) ?_
          refine gf_PM_44 hC hP 0 rfl rfl d_PM_findUnder_38 ?_
          refine lv_iload hx hb d_PM_findUnder_41 (lv_at hl 4 rfl) ?_
          obtain ⟨v3, h4, hf⟩ := o_bind hf
          refine r_iald hC hP 5 rfl h4 d_PM_findUnder_43 ?_
          refine lv_iload_n hx hb d_PM_findUnder_44 rfl (lv_at hl 1 rfl) ?_
          refine lv_icmp_ne (tgt := 66) hx hb d_PM_findUnder_45 (by decide) (fun c5 => ?_) (fun c5 => ?_)
          · have hf := o_neg c5 hf
            exact B_66 back_13 K_13 back_24 K_24 x1 x2 x4 v_underMany v_underLeast v_shows _ _ _ hP hD hS (lv_sub hl [0, 1, 2, 4] rfl) hf
          · have hf := o_pos c5 hf
            refine lv_aload_n hx hb d_PM_findUnder_48 rfl (lv_at hl 0 rfl) ?_
            refine lv_aload_n hx hb d_PM_findUnder_49 rfl (lv_at hl 0 rfl) ?_
            refine gf_PM_41 hC hP 0 rfl rfl d_PM_findUnder_50 ?_
            refine lv_iload hx hb d_PM_findUnder_53 (lv_at hl 4 rfl) ?_
            obtain ⟨v6, h7, hf⟩ := o_bind hf
            refine r_iald hC hP 4 rfl h7 d_PM_findUnder_55 ?_
            obtain ⟨r8, h9, hf⟩ := o_bind hf
            refine cVi (rest := []) (wr := [(a_layer, .inl (cI, 12, .inl v_layer)), (a_cabman, .inl (cI, 30, .inl v_cabman)), (a_page, .inl (cI, 16, .inl v_page)), (a_seenCabman, .inl (cI, 6, .inl v_seenCabman)), (a_seenFinger, .inl (cI, 6, .inl v_seenFinger)), (a_seenOff, .inl (cI, 6, .inl v_seenOff)), (a_seenCame, .inl (cI, 6, .inl v_seenCame)), (a_shows, .inl (cI, 4, .inl v_shows))]) (wn := (cs_PM_findUnder cI cZ a_p0 a_layer a_cabman a_page a_seenCabman a_seenFinger a_seenOff a_seenCame a_shows z_text z_readLayer z_readCabman z_trial z_book z_kept z_isKept z_value v_thrown v_textSize v_place v_cabmen v_readCabmen v_acts v_seen v_seed v_bestCleaning v_bestLayers v_bestMany v_underMany v_underLeast v_restMany v_restFirst v_layer v_cabman v_page v_seenCabman v_seenFinger v_seenOff v_seenCame v_shows)) (c_PM_noCabman l D cI cZ a_p0 z_text a_layer a_cabman z_readLayer z_readCabman a_page z_trial z_book z_kept z_isKept a_seenCabman a_seenFinger a_seenOff a_seenCame z_value a_shows v6 v_thrown v_textSize v_place v_cabmen v_readCabmen v_acts v_seen v_seed v_bestCleaning v_bestLayers v_bestMany v_underMany v_underLeast v_restMany v_restFirst r8 h9) hC hA hP hD hS hl.1 cw_PM_133 0 rfl rfl rfl ⟨Nat.le_of_ble_eq_true rfl, Nat.le_of_ble_eq_true rfl⟩ rfl rfl (Nat.le_of_ble_eq_true rfl) d_PM_findUnder_56 ⟨Nat.zero_le _, Nat.zero_le _⟩ [0] [1, 2, 3, 4, 5, 6, 7, 8] [8, 0, 1, 2, 3, 4, 5, 6, 7] (by decide) (Cut_mk rfl rfl (by decide) (by decide) (by decide) rfl) (fun H locs hP hD hS => ?_)
            refine lv_if_ne (tgt := 66) hx hb d_PM_findUnder_59 (by decide) (fun c10 => ?_) (fun c10 => ?_)
            · have hf := o_neg c10 hf
              exact B_66 back_13 K_13 back_24 K_24 x1 x2 x4 v_underMany v_underLeast v_shows _ _ _ hP hD hS (lv_sub hl [0, 1, 2, 4] rfl) hf
            · have hf := o_pos c10 hf
              refine lv_iconst (v := 1) hx hb d_PM_findUnder_62 (by decide) ?_
              refine lv_goto (tgt := 67) hx hb d_PM_findUnder_63 (by decide) ?_
              exact B_67 back_13 K_13 back_24 K_24 x1 x2 x4 1 v_underMany v_underLeast v_shows _ _ _ hP hD hS (lv_sub hl [0, 1, 2, 4] rfl) hf
  have B_13 : ∀  (n : Nat) (x1 : Int32) (x2 : Int32) (v_underMany : Int32) (v_underLeast : Int32) (v_shows : Nat → Int32) (H : Heap) (locs : List Loc) (ls : Array Slot), va_P D classes (cs_PM_findUnder cI cZ a_p0 a_layer a_cabman a_page a_seenCabman a_seenFinger a_seenOff a_seenCame a_shows z_text z_readLayer z_readCabman z_trial z_book z_kept z_isKept z_value v_thrown v_textSize v_place v_cabmen v_readCabmen v_acts v_seen v_seed v_bestCleaning v_bestLayers v_bestMany v_underMany v_underLeast v_restMany v_restFirst v_layer v_cabman v_page v_seenCabman v_seenFinger v_seenOff v_seenCame v_shows) H → va_D A (cs_PM_findUnder cI cZ a_p0 a_layer a_cabman a_page a_seenCabman a_seenFinger a_seenOff a_seenCame a_shows z_text z_readLayer z_readCabman z_trial z_book z_kept z_isKept z_value v_thrown v_textSize v_place v_cabmen v_readCabmen v_acts v_seen v_seed v_bestCleaning v_bestLayers v_bestMany v_underMany v_underLeast v_restMany v_restFirst v_layer v_cabman v_page v_seenCabman v_seenFinger v_seenOff v_seenCame v_shows) → va_S A s.heap H locs → lv_has ls 6 [(0, .ref a_p0), (1, .int x1), (2, .int x2)] → f_PM_findUnder_13  v_cabmen v_seen v_layer v_cabman v_page v_seenCabman v_seenFinger v_seenOff v_seenCame n x1 x2 v_underMany v_underLeast v_shows = some res → W p l e (rm_ 2 (40 * 2)) s m args below meth c H locs 0 0 Q (F0 m 13 ls []) := by
    intro  n
    induction n with
    | zero => intro x1 x2 v_underMany v_underLeast v_shows H locs ls hP hD hS hl hf; exact nomatch hf
    | succ n ih =>
      intro x1 x2 v_underMany v_underLeast v_shows H locs ls hP hD hS hl hf
      have hf : f_PM_findUnder_13_b  (f_PM_findUnder_13  v_cabmen v_seen v_layer v_cabman v_page v_seenCabman v_seenFinger v_seenOff v_seenCame n) v_cabmen v_seen v_layer v_cabman v_page v_seenCabman v_seenFinger v_seenOff v_seenCame x1 x2 v_underMany v_underLeast v_shows = some res := hf
      generalize f_PM_findUnder_13  v_cabmen v_seen v_layer v_cabman v_page v_seenCabman v_seenFinger v_seenOff v_seenCame n = back_13 at ih hf
      have K_13 := ih
      unfold f_PM_findUnder_13_b at hf
      refine lv_iload_n hx hb d_PM_findUnder_13 rfl (lv_at hl 2 rfl) ?_
      refine lv_bipush (v := 27) hx hb d_PM_findUnder_14 (by decide) ?_
      refine lv_icmp_ge (tgt := 196) hx hb d_PM_findUnder_16 (by decide) (fun c1 => ?_) (fun c1 => ?_)
      · have hf := o_pos c1 hf
        have hr := Option.some.inj hf
        exact RET _ _ _ _ _ (congrArg (fun r : Int32 × Int32 × (Nat → Int32) => (cs_PM_findUnder cI cZ a_p0 a_layer a_cabman a_page a_seenCabman a_seenFinger a_seenOff a_seenCame a_shows z_text z_readLayer z_readCabman z_trial z_book z_kept z_isKept z_value v_thrown v_textSize v_place v_cabmen v_readCabmen v_acts v_seen v_seed v_bestCleaning v_bestLayers v_bestMany r.1 r.2.1 v_restMany v_restFirst v_layer v_cabman v_page v_seenCabman v_seenFinger v_seenOff v_seenCame r.2.2)) hr) hP hD hS d_PM_findUnder_196
      · have hf := o_neg c1 hf
        refine lv_iconst (v := 1) hx hb d_PM_findUnder_19 (by decide) ?_
        refine lv_istore_n (lv' := [(3, .int 1), (0, .ref a_p0), (1, .int x1), (2, .int x2)]) hx hb d_PM_findUnder_20 rfl hl (by decide) rfl (fun ls hl => ?_)
        refine lv_iconst (v := 0) hx hb d_PM_findUnder_21 (by decide) ?_
        refine lv_istore (lv' := [(4, .int 0), (3, .int 1), (0, .ref a_p0), (1, .int x1), (2, .int x2)]) hx hb d_PM_findUnder_22 hl (by decide) rfl (fun ls hl => ?_)
        exact B_24 back_13 K_13 300 x1 x2 1 0 v_underMany v_underLeast v_shows _ _ _ hP hD hS (lv_sub hl [2, 3, 4, 1, 0] rfl) hf
  unfold f_PM_findUnder at hf
  have E : ∀ (H : Heap) (locs : List Loc), va_P D classes (cs_PM_findUnder cI cZ a_p0 a_layer a_cabman a_page a_seenCabman a_seenFinger a_seenOff a_seenCame a_shows z_text z_readLayer z_readCabman z_trial z_book z_kept z_isKept z_value v_thrown v_textSize v_place v_cabmen v_readCabmen v_acts v_seen v_seed v_bestCleaning v_bestLayers v_bestMany v_underMany v_underLeast v_restMany v_restFirst v_layer v_cabman v_page v_seenCabman v_seenFinger v_seenOff v_seenCame v_shows) H → va_S A s.heap H locs → W p l e (rm_ 2 (40 * 2)) s m args below meth c H locs 0 0 Q (F0 m 0 ls []) := by
    intro H locs hP hS
    refine lv_aload_n hx hb d_PM_findUnder_0 rfl (lv_at hl 0 rfl) ?_
    refine lv_iconst (v := 0) hx hb d_PM_findUnder_1 (by decide) ?_
    refine pf_PM_201 hC hP hD hS 0 rfl (Nat.le_of_ble_eq_true rfl) d_PM_findUnder_2 (fun H locs hP hD hS => ?_)
    have hP : va_P D classes (cs_PM_findUnder cI cZ a_p0 a_layer a_cabman a_page a_seenCabman a_seenFinger a_seenOff a_seenCame a_shows z_text z_readLayer z_readCabman z_trial z_book z_kept z_isKept z_value v_thrown v_textSize v_place v_cabmen v_readCabmen v_acts v_seen v_seed v_bestCleaning v_bestLayers v_bestMany 0 v_underLeast v_restMany v_restFirst v_layer v_cabman v_page v_seenCabman v_seenFinger v_seenOff v_seenCame v_shows) H := hP
    have hD : va_D A (cs_PM_findUnder cI cZ a_p0 a_layer a_cabman a_page a_seenCabman a_seenFinger a_seenOff a_seenCame a_shows z_text z_readLayer z_readCabman z_trial z_book z_kept z_isKept z_value v_thrown v_textSize v_place v_cabmen v_readCabmen v_acts v_seen v_seed v_bestCleaning v_bestLayers v_bestMany 0 v_underLeast v_restMany v_restFirst v_layer v_cabman v_page v_seenCabman v_seenFinger v_seenOff v_seenCame v_shows) := hD
    refine lv_aload_n hx hb d_PM_findUnder_5 rfl (lv_at hl 0 rfl) ?_
    refine lv_bipush (v := (-9)) hx hb d_PM_findUnder_6 (by decide) ?_
    refine pf_PM_204 hC hP hD hS 0 rfl (Nat.le_of_ble_eq_true rfl) d_PM_findUnder_8 (fun H locs hP hD hS => ?_)
    have hP : va_P D classes (cs_PM_findUnder cI cZ a_p0 a_layer a_cabman a_page a_seenCabman a_seenFinger a_seenOff a_seenCame a_shows z_text z_readLayer z_readCabman z_trial z_book z_kept z_isKept z_value v_thrown v_textSize v_place v_cabmen v_readCabmen v_acts v_seen v_seed v_bestCleaning v_bestLayers v_bestMany 0 ((-9)) v_restMany v_restFirst v_layer v_cabman v_page v_seenCabman v_seenFinger v_seenOff v_seenCame v_shows) H := hP
    have hD : va_D A (cs_PM_findUnder cI cZ a_p0 a_layer a_cabman a_page a_seenCabman a_seenFinger a_seenOff a_seenCame a_shows z_text z_readLayer z_readCabman z_trial z_book z_kept z_isKept z_value v_thrown v_textSize v_place v_cabmen v_readCabmen v_acts v_seen v_seed v_bestCleaning v_bestLayers v_bestMany 0 ((-9)) v_restMany v_restFirst v_layer v_cabman v_page v_seenCabman v_seenFinger v_seenOff v_seenCame v_shows) := hD
    refine lv_iconst (v := 0) hx hb d_PM_findUnder_11 (by decide) ?_
    refine lv_istore_n (lv' := [(2, .int 0), (0, .ref a_p0), (1, .int i1)]) hx hb d_PM_findUnder_12 rfl hl (by decide) rfl (fun ls hl => ?_)
    exact B_13 300 i1 0 0 ((-9)) v_shows _ _ _ hP hD hS (lv_sub hl [1, 2, 0] rfl) hf
  exact E _ _ hP hS
