set_option maxHeartbeats 4000000 in
set_option maxRecDepth 100000 in
theorem c_Text_append (l : Launch) (D : va_G) (cI cZ : ClassId) (a_p0 a_letters : Nat) (i1 : Int32) (v_length : Int32) (v_letters : Nat → Int32) (res : Int32 × Int32 × (Nat → Int32)) (hf : f_Text_append i1 v_length v_letters = some res) : CtI l y_Text_append b_Text_append 2 (some .boolean) 0 D cI cZ [.ref a_p0, .int i1] (cs_Text_append cI cZ a_p0 a_letters v_length v_letters) res.1 (cs_Text_append cI cZ a_p0 a_letters res.2.1 res.2.2) := by
  refine CtI_mk (by decide) (Nat.le_of_ble_eq_true rfl) ?_
  intro p e s m args below meth c A Q hC hA hP hD RET ls hl
  have hC : Cx p s m args meth c b_Text_append 2 R_Text D cI cZ := hC
  have hl : lv_has ls 2 [(0, .ref a_p0), (1, .int i1)] := hl
  obtain ⟨hx, hb, hml, hown, hts, hlk, hKK⟩ := id hC
  have hS : va_S A s.heap s.heap [] := va_S.rf
  unfold f_Text_append at hf
  have E : ∀ (H : Heap) (locs : List Loc), va_P D classes (cs_Text_append cI cZ a_p0 a_letters v_length v_letters) H → va_S A s.heap H locs → W p l e (rm_ 0 (40 * 0)) s m args below meth c H locs 0 0 Q (F0 m 0 ls []) := by
    intro H locs hP hS
    refine lv_aload_n hx hb d_Text_append_0 rfl (lv_at hl 0 rfl) ?_
    refine gf_Text_15 hC hP 0 rfl rfl d_Text_append_1 ?_
    refine lv_bipush (v := 48) hx hb d_Text_append_4 (by decide) ?_
    refine lv_icmp_lt (tgt := 11) hx hb d_Text_append_6 (by decide) (fun c1 => ?_) (fun c1 => ?_)
    · have hf := o_pos c1 hf
      refine lv_aload_n hx hb d_Text_append_11 rfl (lv_at hl 0 rfl) ?_
      refine gf_Text_9 hC hP 0 rfl rfl d_Text_append_12 ?_
      refine lv_aload_n hx hb d_Text_append_15 rfl (lv_at hl 0 rfl) ?_
      refine gf_Text_15 hC hP 0 rfl rfl d_Text_append_16 ?_
      refine lv_iload_n hx hb d_Text_append_19 rfl (lv_at hl 1 rfl) ?_
      obtain ⟨g2, h3, hf⟩ := o_bind hf
      refine r_iast hC hP hD hS 1 rfl h3 d_Text_append_20 (fun H locs hP hD hS => ?_)
      have hP : va_P D classes (cs_Text_append cI cZ a_p0 a_letters v_length g2) H := hP
      have hD : va_D A (cs_Text_append cI cZ a_p0 a_letters v_length g2) := hD
      refine lv_aload_n hx hb d_Text_append_21 rfl (lv_at hl 0 rfl) ?_
      refine lv_dup hx hb d_Text_append_22 rfl ?_
      refine gf_Text_15 hC hP 0 rfl rfl d_Text_append_23 ?_
      refine lv_iconst (v := 1) hx hb d_Text_append_26 (by decide) ?_
      refine lv_iadd hx hb d_Text_append_27 ?_
      refine pf_Text_15 hC hP hD hS 0 rfl (Nat.le_of_ble_eq_true rfl) d_Text_append_28 (fun H locs hP hD hS => ?_)
      have hP : va_P D classes (cs_Text_append cI cZ a_p0 a_letters (v_length + 1) g2) H := hP
      have hD : va_D A (cs_Text_append cI cZ a_p0 a_letters (v_length + 1) g2) := hD
      refine lv_iconst (v := 1) hx hb d_Text_append_31 (by decide) ?_
      have hr := Option.some.inj hf
      exact RET _ _ _ _ _ _ rfl (congrArg (fun r : Int32 × Int32 × (Nat → Int32) => r.1) hr) (congrArg (fun r : Int32 × Int32 × (Nat → Int32) => (cs_Text_append cI cZ a_p0 a_letters r.2.1 r.2.2)) hr) hP hD hS d_Text_append_32
    · have hf := o_neg c1 hf
      refine lv_iconst (v := 0) hx hb d_Text_append_9 (by decide) ?_
      have hr := Option.some.inj hf
      exact RET _ _ _ _ _ _ rfl (congrArg (fun r : Int32 × Int32 × (Nat → Int32) => r.1) hr) (congrArg (fun r : Int32 × Int32 × (Nat → Int32) => (cs_Text_append cI cZ a_p0 a_letters r.2.1 r.2.2)) hr) hP hD hS d_Text_append_10
  exact E _ _ hP hS
set_option maxHeartbeats 4000000 in
set_option maxRecDepth 100000 in
theorem c_Text_fits (l : Launch) (D : va_G) (cI cZ : ClassId) (i0 : Int32) (i1 : Int32) (res : Int32) (hf : f_Text_fits i0 i1 = some res) : CtI l y_Text_fits b_Text_fits 2 (some .boolean) 0 D cI cZ [.int i0, .int i1] [] res [] := by
  refine CtI_mk (by decide) (Nat.le_of_ble_eq_true rfl) ?_
  intro p e s m args below meth c A Q hC hA hP hD RET ls hl
  have hC : Cx p s m args meth c b_Text_fits 2 R_Text D cI cZ := hC
  have hl : lv_has ls 2 [(0, .int i0), (1, .int i1)] := hl
  obtain ⟨hx, hb, hml, hown, hts, hlk, hKK⟩ := id hC
  have hS : va_S A s.heap s.heap [] := va_S.rf
  have B_83 : ∀  (w0 : Int32) (H : Heap) (locs : List Loc) (ls : Array Slot), va_P D classes [] H → va_D A [] → va_S A s.heap H locs → lv_has ls 2 [] → f_Text_fits_83   w0 = some res → W p l e (rm_ 0 (40 * 0)) s m args below meth c H locs 0 0 Q (F0 m 83 ls [.int w0]) := by
    intro  w0 H locs ls hP hD hS hl hf
    unfold f_Text_fits_83 at hf
    obtain ⟨h1, hf⟩ := o_ite hf
    have hr := Option.some.inj hf
    exact RET _ _ _ _ _ _ (narB h1) (congrArg (fun r : Int32 => r) hr) rfl hP hD hS d_Text_fits_83
  have B_101 : ∀  (w0 : Int32) (H : Heap) (locs : List Loc) (ls : Array Slot), va_P D classes [] H → va_D A [] → va_S A s.heap H locs → lv_has ls 2 [] → f_Text_fits_101   w0 = some res → W p l e (rm_ 0 (40 * 0)) s m args below meth c H locs 0 0 Q (F0 m 101 ls [.int w0]) := by
    intro  w0 H locs ls hP hD hS hl hf
    unfold f_Text_fits_101 at hf
    obtain ⟨h1, hf⟩ := o_ite hf
    have hr := Option.some.inj hf
    exact RET _ _ _ _ _ _ (narB h1) (congrArg (fun r : Int32 => r) hr) rfl hP hD hS d_Text_fits_101
  have B_100 : ∀   (H : Heap) (locs : List Loc) (ls : Array Slot), va_P D classes [] H → va_D A [] → va_S A s.heap H locs → lv_has ls 2 [] → f_Text_fits_100    = some res → W p l e (rm_ 0 (40 * 0)) s m args below meth c H locs 0 0 Q (F0 m 100 ls []) := by
    intro   H locs ls hP hD hS hl hf
    unfold f_Text_fits_100 at hf
    refine lv_iconst (v := 0) hx hb d_Text_fits_100 (by decide) ?_
    exact B_101 0 _ _ _ hP hD hS (lv_sub hl [] rfl) hf
  have B_119 : ∀  (w0 : Int32) (H : Heap) (locs : List Loc) (ls : Array Slot), va_P D classes [] H → va_D A [] → va_S A s.heap H locs → lv_has ls 2 [] → f_Text_fits_119   w0 = some res → W p l e (rm_ 0 (40 * 0)) s m args below meth c H locs 0 0 Q (F0 m 119 ls [.int w0]) := by
    intro  w0 H locs ls hP hD hS hl hf
    unfold f_Text_fits_119 at hf
    obtain ⟨h1, hf⟩ := o_ite hf
    have hr := Option.some.inj hf
    exact RET _ _ _ _ _ _ (narB h1) (congrArg (fun r : Int32 => r) hr) rfl hP hD hS d_Text_fits_119
  have B_118 : ∀   (H : Heap) (locs : List Loc) (ls : Array Slot), va_P D classes [] H → va_D A [] → va_S A s.heap H locs → lv_has ls 2 [] → f_Text_fits_118    = some res → W p l e (rm_ 0 (40 * 0)) s m args below meth c H locs 0 0 Q (F0 m 118 ls []) := by
    intro   H locs ls hP hD hS hl hf
    unfold f_Text_fits_118 at hf
    refine lv_iconst (v := 0) hx hb d_Text_fits_118 (by decide) ?_
    exact B_119 0 _ _ _ hP hD hS (lv_sub hl [] rfl) hf
  have B_39 : ∀  (w0 : Int32) (H : Heap) (locs : List Loc) (ls : Array Slot), va_P D classes [] H → va_D A [] → va_S A s.heap H locs → lv_has ls 2 [] → f_Text_fits_39   w0 = some res → W p l e (rm_ 0 (40 * 0)) s m args below meth c H locs 0 0 Q (F0 m 39 ls [.int w0]) := by
    intro  w0 H locs ls hP hD hS hl hf
    unfold f_Text_fits_39 at hf
    obtain ⟨h1, hf⟩ := o_ite hf
    have hr := Option.some.inj hf
    exact RET _ _ _ _ _ _ (narB h1) (congrArg (fun r : Int32 => r) hr) rfl hP hD hS d_Text_fits_39
  have B_38 : ∀   (H : Heap) (locs : List Loc) (ls : Array Slot), va_P D classes [] H → va_D A [] → va_S A s.heap H locs → lv_has ls 2 [] → f_Text_fits_38    = some res → W p l e (rm_ 0 (40 * 0)) s m args below meth c H locs 0 0 Q (F0 m 38 ls []) := by
    intro   H locs ls hP hD hS hl hf
    unfold f_Text_fits_38 at hf
    refine lv_iconst (v := 0) hx hb d_Text_fits_38 (by decide) ?_
    exact B_39 0 _ _ _ hP hD hS (lv_sub hl [] rfl) hf
  have B_15 : ∀  (w0 : Int32) (H : Heap) (locs : List Loc) (ls : Array Slot), va_P D classes [] H → va_D A [] → va_S A s.heap H locs → lv_has ls 2 [] → f_Text_fits_15   w0 = some res → W p l e (rm_ 0 (40 * 0)) s m args below meth c H locs 0 0 Q (F0 m 15 ls [.int w0]) := by
    intro  w0 H locs ls hP hD hS hl hf
    unfold f_Text_fits_15 at hf
    obtain ⟨h1, hf⟩ := o_ite hf
    have hr := Option.some.inj hf
    exact RET _ _ _ _ _ _ (narB h1) (congrArg (fun r : Int32 => r) hr) rfl hP hD hS d_Text_fits_15
  unfold f_Text_fits at hf
  have E : ∀ (H : Heap) (locs : List Loc), va_P D classes [] H → va_S A s.heap H locs → W p l e (rm_ 0 (40 * 0)) s m args below meth c H locs 0 0 Q (F0 m 0 ls []) := by
    intro H locs hP hS
    refine lv_iload_n hx hb d_Text_fits_0 rfl (lv_at hl 0 rfl) ?_
    refine lv_if_ne (tgt := 16) hx hb d_Text_fits_1 (by decide) (fun c1 => ?_) (fun c1 => ?_)
    · have hf := o_neg c1 hf
      refine lv_iload_n hx hb d_Text_fits_16 rfl (lv_at hl 0 rfl) ?_
      refine lv_bipush (v := 13) hx hb d_Text_fits_17 (by decide) ?_
      refine lv_icmp_ge (tgt := 40) hx hb d_Text_fits_19 (by decide) (fun c2 => ?_) (fun c2 => ?_)
      · have hf := o_pos c2 hf
        refine lv_iload_n hx hb d_Text_fits_40 rfl (lv_at hl 0 rfl) ?_
        refine lv_bipush (v := 13) hx hb d_Text_fits_41 (by decide) ?_
        refine lv_isub hx hb d_Text_fits_43 ?_
        refine lv_bipush (v := 7) hx hb d_Text_fits_44 (by decide) ?_
        refine lv_irem hx hb d_Text_fits_46 (by decide) ?_
        by_cases c3 : (rmI (i0 - 13) 7) = 0
        · have hf := o_pos c3 hf
          refine lv_lookup (off := 25) (tgt := 72) hx hb d_Text_fits_47 (by decide) (lk_0 c3) (by decide) ?_
          refine lv_iload_n hx hb d_Text_fits_72 rfl (lv_at hl 1 rfl) ?_
          refine lv_bipush (v := 67) hx hb d_Text_fits_73 (by decide) ?_
          refine lv_icmp_ne (tgt := 82) hx hb d_Text_fits_75 (by decide) (fun c4 => ?_) (fun c4 => ?_)
          · have hf := o_neg c4 hf
            refine lv_iconst (v := 0) hx hb d_Text_fits_82 (by decide) ?_
            exact B_83 0 _ _ _ hP hD hS (lv_sub hl [] rfl) hf
          · have hf := o_pos c4 hf
            refine lv_iconst (v := 1) hx hb d_Text_fits_78 (by decide) ?_
            refine lv_goto (tgt := 83) hx hb d_Text_fits_79 (by decide) ?_
            exact B_83 1 _ _ _ hP hD hS (lv_sub hl [] rfl) hf
        · have hf := o_neg c3 hf
          by_cases c5 : (rmI (i0 - 13) 7) = 2
          · have hf := o_pos c5 hf
            refine lv_lookup (off := 37) (tgt := 84) hx hb d_Text_fits_47 (by decide) (lk_2 c5) (by decide) ?_
            refine lv_iload_n hx hb d_Text_fits_84 rfl (lv_at hl 1 rfl) ?_
            refine lv_bipush (v := 49) hx hb d_Text_fits_85 (by decide) ?_
            refine lv_icmp_lt (tgt := 100) hx hb d_Text_fits_87 (by decide) (fun c6 => ?_) (fun c6 => ?_)
            · have hf := o_pos c6 hf
              exact B_100 _ _ _ hP hD hS (lv_sub hl [] rfl) hf
            · have hf := o_neg c6 hf
              refine lv_iload_n hx hb d_Text_fits_90 rfl (lv_at hl 1 rfl) ?_
              refine lv_bipush (v := 57) hx hb d_Text_fits_91 (by decide) ?_
              refine lv_icmp_gt (tgt := 100) hx hb d_Text_fits_93 (by decide) (fun c7 => ?_) (fun c7 => ?_)
              · have hf := o_pos c7 hf
                exact B_100 _ _ _ hP hD hS (lv_sub hl [] rfl) hf
              · have hf := o_neg c7 hf
                refine lv_iconst (v := 1) hx hb d_Text_fits_96 (by decide) ?_
                refine lv_goto (tgt := 101) hx hb d_Text_fits_97 (by decide) ?_
                exact B_101 1 _ _ _ hP hD hS (lv_sub hl [] rfl) hf
          · have hf := o_neg c5 hf
            refine lv_lookup (off := 55) (tgt := 102) hx hb d_Text_fits_47 (by decide) (lk_out c3 c5) (by decide) ?_
            refine lv_iload_n hx hb d_Text_fits_102 rfl (lv_at hl 1 rfl) ?_
            refine lv_bipush (v := 48) hx hb d_Text_fits_103 (by decide) ?_
            refine lv_icmp_lt (tgt := 118) hx hb d_Text_fits_105 (by decide) (fun c8 => ?_) (fun c8 => ?_)
            · have hf := o_pos c8 hf
              exact B_118 _ _ _ hP hD hS (lv_sub hl [] rfl) hf
            · have hf := o_neg c8 hf
              refine lv_iload_n hx hb d_Text_fits_108 rfl (lv_at hl 1 rfl) ?_
              refine lv_bipush (v := 51) hx hb d_Text_fits_109 (by decide) ?_
              refine lv_icmp_gt (tgt := 118) hx hb d_Text_fits_111 (by decide) (fun c9 => ?_) (fun c9 => ?_)
              · have hf := o_pos c9 hf
                exact B_118 _ _ _ hP hD hS (lv_sub hl [] rfl) hf
              · have hf := o_neg c9 hf
                refine lv_iconst (v := 1) hx hb d_Text_fits_114 (by decide) ?_
                refine lv_goto (tgt := 119) hx hb d_Text_fits_115 (by decide) ?_
                exact B_119 1 _ _ _ hP hD hS (lv_sub hl [] rfl) hf
      · have hf := o_neg c2 hf
        refine lv_iload_n hx hb d_Text_fits_22 rfl (lv_at hl 1 rfl) ?_
        refine lv_bipush (v := 48) hx hb d_Text_fits_23 (by decide) ?_
        refine lv_icmp_lt (tgt := 38) hx hb d_Text_fits_25 (by decide) (fun c10 => ?_) (fun c10 => ?_)
        · have hf := o_pos c10 hf
          exact B_38 _ _ _ hP hD hS (lv_sub hl [] rfl) hf
        · have hf := o_neg c10 hf
          refine lv_iload_n hx hb d_Text_fits_28 rfl (lv_at hl 1 rfl) ?_
          refine lv_bipush (v := 50) hx hb d_Text_fits_29 (by decide) ?_
          refine lv_icmp_gt (tgt := 38) hx hb d_Text_fits_31 (by decide) (fun c11 => ?_) (fun c11 => ?_)
          · have hf := o_pos c11 hf
            exact B_38 _ _ _ hP hD hS (lv_sub hl [] rfl) hf
          · have hf := o_neg c11 hf
            refine lv_iconst (v := 1) hx hb d_Text_fits_34 (by decide) ?_
            refine lv_goto (tgt := 39) hx hb d_Text_fits_35 (by decide) ?_
            exact B_39 1 _ _ _ hP hD hS (lv_sub hl [] rfl) hf
    · have hf := o_pos c1 hf
      refine lv_iload_n hx hb d_Text_fits_4 rfl (lv_at hl 1 rfl) ?_
      refine lv_bipush (v := 80) hx hb d_Text_fits_5 (by decide) ?_
      refine lv_icmp_ne (tgt := 14) hx hb d_Text_fits_7 (by decide) (fun c12 => ?_) (fun c12 => ?_)
      · have hf := o_neg c12 hf
        refine lv_iconst (v := 0) hx hb d_Text_fits_14 (by decide) ?_
        exact B_15 0 _ _ _ hP hD hS (lv_sub hl [] rfl) hf
      · have hf := o_pos c12 hf
        refine lv_iconst (v := 1) hx hb d_Text_fits_10 (by decide) ?_
        refine lv_goto (tgt := 15) hx hb d_Text_fits_11 (by decide) ?_
        exact B_15 1 _ _ _ hP hD hS (lv_sub hl [] rfl) hf
  exact E _ _ hP hS
set_option maxHeartbeats 4000000 in
set_option maxRecDepth 100000 in
theorem c_Text_firstFault (l : Launch) (D : va_G) (cI cZ : ClassId) (a_p0 a_letters : Nat) (v_length : Int32) (v_letters : Nat → Int32) (res : Int32) (hf : f_Text_firstFault v_length v_letters = some res) : CtI l y_Text_firstFault b_Text_firstFault 2 (some .int) 1 D cI cZ [.ref a_p0] (cs_Text_firstFault cI cZ a_p0 a_letters v_length v_letters) res (cs_Text_firstFault cI cZ a_p0 a_letters v_length v_letters) := by
  refine CtI_mk (by decide) (Nat.le_of_ble_eq_true rfl) ?_
  intro p e s m args below meth c A Q hC hA hP hD RET ls hl
  have hC : Cx p s m args meth c b_Text_firstFault 2 R_Text D cI cZ := hC
  have hl : lv_has ls 2 [(0, .ref a_p0)] := hl
  obtain ⟨hx, hb, hml, hown, hts, hlk, hKK⟩ := id hC
  have hS : va_S A s.heap s.heap [] := va_S.rf
  have B_72 : ∀  (w0 : Int32) (H : Heap) (locs : List Loc) (ls : Array Slot), va_P D classes (cs_Text_firstFault cI cZ a_p0 a_letters v_length v_letters) H → va_D A (cs_Text_firstFault cI cZ a_p0 a_letters v_length v_letters) → va_S A s.heap H locs → lv_has ls 2 [] → f_Text_firstFault_72  v_length v_letters w0 = some res → W p l e (rm_ 1 (40 * 1)) s m args below meth c H locs 0 0 Q (F0 m 72 ls [.int w0]) := by
    intro  w0 H locs ls hP hD hS hl hf
    unfold f_Text_firstFault_72 at hf
    have hr := Option.some.inj hf
    exact RET _ _ _ _ _ _ rfl (congrArg (fun r : Int32 => r) hr) rfl hP hD hS d_Text_firstFault_72
  have B_58 : ∀  (w0 : Int32) (H : Heap) (locs : List Loc) (ls : Array Slot), va_P D classes (cs_Text_firstFault cI cZ a_p0 a_letters v_length v_letters) H → va_D A (cs_Text_firstFault cI cZ a_p0 a_letters v_length v_letters) → va_S A s.heap H locs → lv_has ls 2 [(0, .ref a_p0)] → f_Text_firstFault_58  v_length v_letters w0 = some res → W p l e (rm_ 1 (40 * 1)) s m args below meth c H locs 0 0 Q (F0 m 58 ls [.int w0]) := by
    intro  w0 H locs ls hP hD hS hl hf
    unfold f_Text_firstFault_58 at hf
    refine lv_istore_n (lv' := [(1, .int w0), (0, .ref a_p0)]) hx hb d_Text_firstFault_58 rfl hl (by decide) rfl (fun ls hl => ?_)
    refine lv_iload_n hx hb d_Text_firstFault_59 rfl (lv_at hl 0 rfl) ?_
    refine lv_if_eq (tgt := 68) hx hb d_Text_firstFault_60 (by decide) (fun c1 => ?_) (fun c1 => ?_)
    · have hf := o_pos c1 hf
      refine lv_aload_n hx hb d_Text_firstFault_68 rfl (lv_at hl 1 rfl) ?_
      refine gf_Text_15 hC hP 0 rfl rfl d_Text_firstFault_69 ?_
      exact B_72 v_length _ _ _ hP hD hS (lv_sub hl [] rfl) hf
    · have hf := o_neg c1 hf
      refine lv_bipush (v := (-9)) hx hb d_Text_firstFault_63 (by decide) ?_
      refine lv_goto (tgt := 72) hx hb d_Text_firstFault_65 (by decide) ?_
      exact B_72 ((-9)) _ _ _ hP hD hS (lv_sub hl [] rfl) hf
  have B_57 : ∀   (H : Heap) (locs : List Loc) (ls : Array Slot), va_P D classes (cs_Text_firstFault cI cZ a_p0 a_letters v_length v_letters) H → va_D A (cs_Text_firstFault cI cZ a_p0 a_letters v_length v_letters) → va_S A s.heap H locs → lv_has ls 2 [(0, .ref a_p0)] → f_Text_firstFault_57  v_length v_letters  = some res → W p l e (rm_ 1 (40 * 1)) s m args below meth c H locs 0 0 Q (F0 m 57 ls []) := by
    intro   H locs ls hP hD hS hl hf
    unfold f_Text_firstFault_57 at hf
    refine lv_iconst (v := 0) hx hb d_Text_firstFault_57 (by decide) ?_
    exact B_58 0 _ _ _ hP hD hS (lv_sub hl [0] rfl) hf
  have B_2 : ∀  (n : Nat) (x1 : Int32) (H : Heap) (locs : List Loc) (ls : Array Slot), va_P D classes (cs_Text_firstFault cI cZ a_p0 a_letters v_length v_letters) H → va_D A (cs_Text_firstFault cI cZ a_p0 a_letters v_length v_letters) → va_S A s.heap H locs → lv_has ls 2 [(0, .ref a_p0), (1, .int x1)] → f_Text_firstFault_2  v_length v_letters n x1 = some res → W p l e (rm_ 1 (40 * 1)) s m args below meth c H locs 0 0 Q (F0 m 2 ls []) := by
    intro  n
    induction n with
    | zero => intro x1 H locs ls hP hD hS hl hf; exact nomatch hf
    | succ n ih =>
      intro x1 H locs ls hP hD hS hl hf
      have hf : f_Text_firstFault_2_b  (f_Text_firstFault_2  v_length v_letters n) v_length v_letters x1 = some res := hf
      generalize f_Text_firstFault_2  v_length v_letters n = back_2 at ih hf
      have K_2 := ih
      unfold f_Text_firstFault_2_b at hf
      refine lv_iload_n hx hb d_Text_firstFault_2 rfl (lv_at hl 1 rfl) ?_
      refine lv_aload_n hx hb d_Text_firstFault_3 rfl (lv_at hl 0 rfl) ?_
      refine gf_Text_15 hC hP 0 rfl rfl d_Text_firstFault_4 ?_
      refine lv_icmp_ge (tgt := 31) hx hb d_Text_firstFault_7 (by decide) (fun c1 => ?_) (fun c1 => ?_)
      · have hf := o_pos c1 hf
        refine lv_aload_n hx hb d_Text_firstFault_31 rfl (lv_at hl 0 rfl) ?_
        refine gf_Text_15 hC hP 0 rfl rfl d_Text_firstFault_32 ?_
        refine lv_bipush (v := 13) hx hb d_Text_firstFault_35 (by decide) ?_
        refine lv_icmp_lt (tgt := 57) hx hb d_Text_firstFault_37 (by decide) (fun c2 => ?_) (fun c2 => ?_)
        · have hf := o_pos c2 hf
          exact B_57 _ _ _ hP hD hS (lv_sub hl [0] rfl) hf
        · have hf := o_neg c2 hf
          refine lv_aload_n hx hb d_Text_firstFault_40 rfl (lv_at hl 0 rfl) ?_
          refine gf_Text_15 hC hP 0 rfl rfl d_Text_firstFault_41 ?_
          refine lv_bipush (v := 13) hx hb d_Text_firstFault_44 (by decide) ?_
          refine lv_isub hx hb d_Text_firstFault_46 ?_
          refine lv_bipush (v := 7) hx hb d_Text_firstFault_47 (by decide) ?_
          refine lv_irem hx hb d_Text_firstFault_49 (by decide) ?_
          refine lv_if_ne (tgt := 57) hx hb d_Text_firstFault_50 (by decide) (fun c3 => ?_) (fun c3 => ?_)
          · have hf := o_neg c3 hf
            exact B_57 _ _ _ hP hD hS (lv_sub hl [0] rfl) hf
          · have hf := o_pos c3 hf
            refine lv_iconst (v := 1) hx hb d_Text_firstFault_53 (by decide) ?_
            refine lv_goto (tgt := 58) hx hb d_Text_firstFault_54 (by decide) ?_
            exact B_58 1 _ _ _ hP hD hS (lv_sub hl [0] rfl) hf
      · have hf := o_neg c1 hf
        refine lv_iload_n hx hb d_Text_firstFault_10 rfl (lv_at hl 1 rfl) ?_
        refine lv_aload_n hx hb d_Text_firstFault_11 rfl (lv_at hl 0 rfl) ?_
        refine gf_Text_9 hC hP 0 rfl rfl d_Text_firstFault_12 ?_
        refine lv_iload_n hx hb d_Text_firstFault_15 rfl (lv_at hl 1 rfl) ?_
        obtain ⟨v4, h5, hf⟩ := o_bind hf
        refine r_iald hC hP 1 rfl h5 d_Text_firstFault_16 ?_
        obtain ⟨r6, h7, hf⟩ := o_bind hf
        refine cSi0 (rest := []) (c_Text_fits l D cI cZ x1 v4 r6 h7) hC hA hP hD hS hl.1 cw_Text_19 ⟨Nat.le_of_ble_eq_true rfl, Nat.le_of_ble_eq_true rfl⟩ rfl rfl (Nat.le_of_ble_eq_true rfl) d_Text_firstFault_17 ⟨Nat.zero_le _, Nat.zero_le _⟩ (fun H locs hP hS => ?_)
        refine lv_if_ne (tgt := 25) hx hb d_Text_firstFault_20 (by decide) (fun c8 => ?_) (fun c8 => ?_)
        · have hf := o_neg c8 hf
          refine lv_iinc (v := x1 + 1) (lv' := [(1, .int (x1 + 1)), (0, .ref a_p0)]) hx hb d_Text_firstFault_25 hl (k := 1) rfl (rfl) (by decide) rfl (fun ls hl => ?_)
          refine lv_goto (tgt := 2) hx hb d_Text_firstFault_28 (by decide) ?_
          exact K_2 (x1 + 1) _ _ _ hP hD hS (lv_sub hl [1, 0] rfl) hf
        · have hf := o_pos c8 hf
          refine lv_iload_n hx hb d_Text_firstFault_23 rfl (lv_at hl 1 rfl) ?_
          have hr := Option.some.inj hf
          exact RET _ _ _ _ _ _ rfl (congrArg (fun r : Int32 => r) hr) rfl hP hD hS d_Text_firstFault_24
  unfold f_Text_firstFault at hf
  have E : ∀ (H : Heap) (locs : List Loc), va_P D classes (cs_Text_firstFault cI cZ a_p0 a_letters v_length v_letters) H → va_S A s.heap H locs → W p l e (rm_ 1 (40 * 1)) s m args below meth c H locs 0 0 Q (F0 m 0 ls []) := by
    intro H locs hP hS
    refine lv_iconst (v := 0) hx hb d_Text_firstFault_0 (by decide) ?_
    refine lv_istore_n (lv' := [(1, .int 0), (0, .ref a_p0)]) hx hb d_Text_firstFault_1 rfl hl (by decide) rfl (fun ls hl => ?_)
    exact B_2 300 0 _ _ _ hP hD hS (lv_sub hl [1, 0] rfl) hf
  exact E _ _ hP hS
set_option maxHeartbeats 4000000 in
set_option maxRecDepth 100000 in
theorem c_Text_figure (l : Launch) (D : va_G) (cI cZ : ClassId) (a_p0 a_letters : Nat) (i1 : Int32) (v_length : Int32) (v_letters : Nat → Int32) (res : Int32) (hf : f_Text_figure i1 v_length v_letters = some res) : CtI l y_Text_figure b_Text_figure 2 (some .int) 0 D cI cZ [.ref a_p0, .int i1] (cs_Text_figure cI cZ a_p0 a_letters v_length v_letters) res (cs_Text_figure cI cZ a_p0 a_letters v_length v_letters) := by
  refine CtI_mk (by decide) (Nat.le_of_ble_eq_true rfl) ?_
  intro p e s m args below meth c A Q hC hA hP hD RET ls hl
  have hC : Cx p s m args meth c b_Text_figure 2 R_Text D cI cZ := hC
  have hl : lv_has ls 2 [(0, .ref a_p0), (1, .int i1)] := hl
  obtain ⟨hx, hb, hml, hown, hts, hlk, hKK⟩ := id hC
  have hS : va_S A s.heap s.heap [] := va_S.rf
  have B_25 : ∀  (w0 : Int32) (H : Heap) (locs : List Loc) (ls : Array Slot), va_P D classes (cs_Text_figure cI cZ a_p0 a_letters v_length v_letters) H → va_D A (cs_Text_figure cI cZ a_p0 a_letters v_length v_letters) → va_S A s.heap H locs → lv_has ls 2 [] → f_Text_figure_25  v_length v_letters w0 = some res → W p l e (rm_ 0 (40 * 0)) s m args below meth c H locs 0 0 Q (F0 m 25 ls [.int w0]) := by
    intro  w0 H locs ls hP hD hS hl hf
    unfold f_Text_figure_25 at hf
    have hr := Option.some.inj hf
    exact RET _ _ _ _ _ _ rfl (congrArg (fun r : Int32 => r) hr) rfl hP hD hS d_Text_figure_25
  have B_12 : ∀   (H : Heap) (locs : List Loc) (ls : Array Slot), va_P D classes (cs_Text_figure cI cZ a_p0 a_letters v_length v_letters) H → va_D A (cs_Text_figure cI cZ a_p0 a_letters v_length v_letters) → va_S A s.heap H locs → lv_has ls 2 [] → f_Text_figure_12  v_length v_letters  = some res → W p l e (rm_ 0 (40 * 0)) s m args below meth c H locs 0 0 Q (F0 m 12 ls []) := by
    intro   H locs ls hP hD hS hl hf
    unfold f_Text_figure_12 at hf
    refine lv_iconst (v := 0) hx hb d_Text_figure_12 (by decide) ?_
    refine lv_goto (tgt := 25) hx hb d_Text_figure_13 (by decide) ?_
    exact B_25 0 _ _ _ hP hD hS (lv_sub hl [] rfl) hf
  unfold f_Text_figure at hf
  have E : ∀ (H : Heap) (locs : List Loc), va_P D classes (cs_Text_figure cI cZ a_p0 a_letters v_length v_letters) H → va_S A s.heap H locs → W p l e (rm_ 0 (40 * 0)) s m args below meth c H locs 0 0 Q (F0 m 0 ls []) := by
    intro H locs hP hS
    refine lv_iload_n hx hb d_Text_figure_0 rfl (lv_at hl 1 rfl) ?_
    refine lv_if_lt (tgt := 12) hx hb d_Text_figure_1 (by decide) (fun c1 => ?_) (fun c1 => ?_)
    · have hf := o_pos c1 hf
      exact B_12 _ _ _ hP hD hS (lv_sub hl [] rfl) hf
    · have hf := o_neg c1 hf
      refine lv_iload_n hx hb d_Text_figure_4 rfl (lv_at hl 1 rfl) ?_
      refine lv_aload_n hx hb d_Text_figure_5 rfl (lv_at hl 0 rfl) ?_
      refine gf_Text_15 hC hP 0 rfl rfl d_Text_figure_6 ?_
      refine lv_icmp_lt (tgt := 16) hx hb d_Text_figure_9 (by decide) (fun c2 => ?_) (fun c2 => ?_)
      · have hf := o_pos c2 hf
        refine lv_aload_n hx hb d_Text_figure_16 rfl (lv_at hl 0 rfl) ?_
        refine gf_Text_9 hC hP 0 rfl rfl d_Text_figure_17 ?_
        refine lv_iload_n hx hb d_Text_figure_20 rfl (lv_at hl 1 rfl) ?_
        obtain ⟨v3, h4, hf⟩ := o_bind hf
        refine r_iald hC hP 1 rfl h4 d_Text_figure_21 ?_
        refine lv_bipush (v := 48) hx hb d_Text_figure_22 (by decide) ?_
        refine lv_isub hx hb d_Text_figure_24 ?_
        exact B_25 (v3 - 48) _ _ _ hP hD hS (lv_sub hl [] rfl) hf
      · have hf := o_neg c2 hf
        exact B_12 _ _ _ hP hD hS (lv_sub hl [] rfl) hf
  exact E _ _ hP hS
set_option maxHeartbeats 4000000 in
set_option maxRecDepth 100000 in
theorem c_Hall_read (l : Launch) (D : va_G) (cI cZ : ClassId) (a_p0 a_layers a_kinds a_patiences a_wanted a_p1 a_p1_letters : Nat) (v_count : Int32) (v_layers : Nat → Int32) (v_kinds : Nat → Int32) (v_patiences : Nat → Int32) (v_wanted : Nat → Int32) (v_p1_length : Int32) (v_p1_letters : Nat → Int32) (res : Int32 × (Nat → Int32) × (Nat → Int32) × (Nat → Int32) × (Nat → Int32)) (hf : f_Hall_read v_p1_length v_p1_letters v_count v_layers v_kinds v_patiences v_wanted = some res) : CtV l y_Hall_read b_Hall_read 5 none 1 D cI cZ [.ref a_p0, .ref a_p1] (cs_Hall_read cI cZ a_p0 a_layers a_kinds a_patiences a_wanted a_p1 a_p1_letters v_count v_layers v_kinds v_patiences v_wanted v_p1_length v_p1_letters) (cs_Hall_read cI cZ a_p0 a_layers a_kinds a_patiences a_wanted a_p1 a_p1_letters res.1 res.2.1 res.2.2.1 res.2.2.2.1 res.2.2.2.2 v_p1_length v_p1_letters) := by
  refine CtV_mk (by decide) (Nat.le_of_ble_eq_true rfl) ?_
  intro p e s m args below meth c A Q hC hA hP hD RET ls hl
  have hC : Cx p s m args meth c b_Hall_read 5 R_Hall D cI cZ := hC
  have hl : lv_has ls 5 [(0, .ref a_p0), (1, .ref a_p1)] := hl
  obtain ⟨hx, hb, hml, hown, hts, hlk, hKK⟩ := id hC
  have hS : va_S A s.heap s.heap [] := va_S.rf
  have B_95 : ∀ (back_50 : Int32 → Int32 → (Nat → Int32) → (Nat → Int32) → (Nat → Int32) → (Nat → Int32) → Option (Int32 × (Nat → Int32) × (Nat → Int32) × (Nat → Int32) × (Nat → Int32))) (K_50 : ∀ (x2 : Int32) (v_count : Int32) (v_layers : Nat → Int32) (v_kinds : Nat → Int32) (v_patiences : Nat → Int32) (v_wanted : Nat → Int32) (H : Heap) (locs : List Loc) (ls : Array Slot), va_P D classes (cs_Hall_read cI cZ a_p0 a_layers a_kinds a_patiences a_wanted a_p1 a_p1_letters v_count v_layers v_kinds v_patiences v_wanted v_p1_length v_p1_letters) H → va_D A (cs_Hall_read cI cZ a_p0 a_layers a_kinds a_patiences a_wanted a_p1 a_p1_letters v_count v_layers v_kinds v_patiences v_wanted v_p1_length v_p1_letters) → va_S A s.heap H locs → lv_has ls 5 [(0, .ref a_p0), (1, .ref a_p1), (2, .int x2)] → back_50 x2 v_count v_layers v_kinds v_patiences v_wanted = some res → W p l e (rm_ 1 (40 * 1)) s m args below meth c H locs 0 0 Q (F0 m 50 ls [])) (n : Nat) (x2 : Int32) (x3 : Int32) (x4 : Int32) (v_count : Int32) (v_layers : Nat → Int32) (v_kinds : Nat → Int32) (v_patiences : Nat → Int32) (v_wanted : Nat → Int32) (H : Heap) (locs : List Loc) (ls : Array Slot), va_P D classes (cs_Hall_read cI cZ a_p0 a_layers a_kinds a_patiences a_wanted a_p1 a_p1_letters v_count v_layers v_kinds v_patiences v_wanted v_p1_length v_p1_letters) H → va_D A (cs_Hall_read cI cZ a_p0 a_layers a_kinds a_patiences a_wanted a_p1 a_p1_letters v_count v_layers v_kinds v_patiences v_wanted v_p1_length v_p1_letters) → va_S A s.heap H locs → lv_has ls 5 [(0, .ref a_p0), (1, .ref a_p1), (2, .int x2), (3, .int x3), (4, .int x4)] → f_Hall_read_95 back_50 v_p1_length v_p1_letters n x2 x3 x4 v_count v_layers v_kinds v_patiences v_wanted = some res → W p l e (rm_ 1 (40 * 1)) s m args below meth c H locs 0 0 Q (F0 m 95 ls []) := by
    intro back_50 K_50 n
    induction n with
    | zero => intro x2 x3 x4 v_count v_layers v_kinds v_patiences v_wanted H locs ls hP hD hS hl hf; exact nomatch hf
    | succ n ih =>
      intro x2 x3 x4 v_count v_layers v_kinds v_patiences v_wanted H locs ls hP hD hS hl hf
      have hf : f_Hall_read_95_b back_50 (f_Hall_read_95 back_50 v_p1_length v_p1_letters n) v_p1_length v_p1_letters x2 x3 x4 v_count v_layers v_kinds v_patiences v_wanted = some res := hf
      generalize f_Hall_read_95 back_50 v_p1_length v_p1_letters n = back_95 at ih hf
      have K_95 := ih
      unfold f_Hall_read_95_b at hf
      refine lv_iload hx hb d_Hall_read_95 (lv_at hl 4 rfl) ?_
      refine lv_iconst (v := 4) hx hb d_Hall_read_97 (by decide) ?_
      refine lv_icmp_ge (tgt := 128) hx hb d_Hall_read_98 (by decide) (fun c1 => ?_) (fun c1 => ?_)
      · have hf := o_pos c1 hf
        refine lv_iinc (v := x2 + 1) (lv' := [(2, .int (x2 + 1)), (0, .ref a_p0), (1, .ref a_p1), (3, .int x3), (4, .int x4)]) hx hb d_Hall_read_128 hl (k := 2) rfl (rfl) (by decide) rfl (fun ls hl => ?_)
        refine lv_goto (tgt := 50) hx hb d_Hall_read_131 (by decide) ?_
        exact K_50 (x2 + 1) v_count v_layers v_kinds v_patiences v_wanted _ _ _ hP hD hS (lv_sub hl [1, 2, 0] rfl) hf
      · have hf := o_neg c1 hf
        refine lv_aload_n hx hb d_Hall_read_101 rfl (lv_at hl 0 rfl) ?_
        refine gf_Hall_21 hC hP 0 rfl rfl d_Hall_read_102 ?_
        refine lv_iload_n hx hb d_Hall_read_105 rfl (lv_at hl 2 rfl) ?_
        refine lv_iconst (v := 4) hx hb d_Hall_read_106 (by decide) ?_
        refine lv_imul hx hb d_Hall_read_107 ?_
        refine lv_iload hx hb d_Hall_read_108 (lv_at hl 4 rfl) ?_
        refine lv_iadd hx hb d_Hall_read_110 ?_
        refine lv_aload_n hx hb d_Hall_read_111 rfl (lv_at hl 1 rfl) ?_
        refine lv_iload_n hx hb d_Hall_read_112 rfl (lv_at hl 3 rfl) ?_
        refine lv_iconst (v := 3) hx hb d_Hall_read_113 (by decide) ?_
        refine lv_iadd hx hb d_Hall_read_114 ?_
        refine lv_iload hx hb d_Hall_read_115 (lv_at hl 4 rfl) ?_
        refine lv_iadd hx hb d_Hall_read_117 ?_
        obtain ⟨r2, h3, hf⟩ := o_bind hf
        refine cVi (rest := [.int ((x2 * 4) + x4), .ref a_wanted]) (wr := [(a_p0, .inr (0, [.ref a_layers, .ref a_kinds, .ref a_patiences, .ref a_wanted, .int v_count])), (a_layers, .inl (cI, 12, .inl v_layers)), (a_kinds, .inl (cI, 5, .inl v_kinds)), (a_patiences, .inl (cI, 5, .inl v_patiences)), (a_wanted, .inl (cI, 20, .inl v_wanted))]) (wn := (cs_Hall_read cI cZ a_p0 a_layers a_kinds a_patiences a_wanted a_p1 a_p1_letters v_count v_layers v_kinds v_patiences v_wanted v_p1_length v_p1_letters)) (c_Text_figure l D cI cZ a_p1 a_p1_letters ((x3 + 3) + x4) v_p1_length v_p1_letters r2 h3) hC hA hP hD hS hl.1 cw_Hall_28 5 rfl rfl rfl ⟨Nat.le_of_ble_eq_true rfl, Nat.le_of_ble_eq_true rfl⟩ rfl rfl (Nat.le_of_ble_eq_true rfl) d_Hall_read_118 ⟨Nat.zero_le _, Nat.zero_le _⟩ [5, 6] [0, 1, 2, 3, 4] [0, 1, 2, 3, 4, 5, 6] (by decide) (Cut_mk rfl rfl (by decide) (by decide) (by decide) rfl) (fun H locs hP hD hS => ?_)
        obtain ⟨g4, h5, hf⟩ := o_bind hf
        refine r_iast hC hP hD hS 4 rfl h5 d_Hall_read_121 (fun H locs hP hD hS => ?_)
        have hP : va_P D classes (cs_Hall_read cI cZ a_p0 a_layers a_kinds a_patiences a_wanted a_p1 a_p1_letters v_count v_layers v_kinds v_patiences g4 v_p1_length v_p1_letters) H := hP
        have hD : va_D A (cs_Hall_read cI cZ a_p0 a_layers a_kinds a_patiences a_wanted a_p1 a_p1_letters v_count v_layers v_kinds v_patiences g4 v_p1_length v_p1_letters) := hD
        refine lv_iinc (v := x4 + 1) (lv' := [(4, .int (x4 + 1)), (0, .ref a_p0), (1, .ref a_p1), (2, .int x2), (3, .int x3)]) hx hb d_Hall_read_122 hl (k := 4) rfl (rfl) (by decide) rfl (fun ls hl => ?_)
        refine lv_goto (tgt := 95) hx hb d_Hall_read_125 (by decide) ?_
        exact K_95 x2 x3 (x4 + 1) v_count v_layers v_kinds v_patiences g4 _ _ _ hP hD hS (lv_sub hl [1, 2, 3, 4, 0] rfl) hf
  have B_50 : ∀  (n : Nat) (x2 : Int32) (v_count : Int32) (v_layers : Nat → Int32) (v_kinds : Nat → Int32) (v_patiences : Nat → Int32) (v_wanted : Nat → Int32) (H : Heap) (locs : List Loc) (ls : Array Slot), va_P D classes (cs_Hall_read cI cZ a_p0 a_layers a_kinds a_patiences a_wanted a_p1 a_p1_letters v_count v_layers v_kinds v_patiences v_wanted v_p1_length v_p1_letters) H → va_D A (cs_Hall_read cI cZ a_p0 a_layers a_kinds a_patiences a_wanted a_p1 a_p1_letters v_count v_layers v_kinds v_patiences v_wanted v_p1_length v_p1_letters) → va_S A s.heap H locs → lv_has ls 5 [(0, .ref a_p0), (1, .ref a_p1), (2, .int x2)] → f_Hall_read_50  v_p1_length v_p1_letters n x2 v_count v_layers v_kinds v_patiences v_wanted = some res → W p l e (rm_ 1 (40 * 1)) s m args below meth c H locs 0 0 Q (F0 m 50 ls []) := by
    intro  n
    induction n with
    | zero => intro x2 v_count v_layers v_kinds v_patiences v_wanted H locs ls hP hD hS hl hf; exact nomatch hf
    | succ n ih =>
      intro x2 v_count v_layers v_kinds v_patiences v_wanted H locs ls hP hD hS hl hf
      have hf : f_Hall_read_50_b  (f_Hall_read_50  v_p1_length v_p1_letters n) v_p1_length v_p1_letters x2 v_count v_layers v_kinds v_patiences v_wanted = some res := hf
      generalize f_Hall_read_50  v_p1_length v_p1_letters n = back_50 at ih hf
      have K_50 := ih
      unfold f_Hall_read_50_b at hf
      refine lv_iload_n hx hb d_Hall_read_50 rfl (lv_at hl 2 rfl) ?_
      refine lv_aload_n hx hb d_Hall_read_51 rfl (lv_at hl 0 rfl) ?_
      refine gf_Hall_24 hC hP 0 rfl rfl d_Hall_read_52 ?_
      refine lv_icmp_ge (tgt := 134) hx hb d_Hall_read_55 (by decide) (fun c1 => ?_) (fun c1 => ?_)
      · have hf := o_pos c1 hf
        have hr := Option.some.inj hf
        exact RET _ _ _ _ _ (congrArg (fun r : Int32 × (Nat → Int32) × (Nat → Int32) × (Nat → Int32) × (Nat → Int32) => (cs_Hall_read cI cZ a_p0 a_layers a_kinds a_patiences a_wanted a_p1 a_p1_letters r.1 r.2.1 r.2.2.1 r.2.2.2.1 r.2.2.2.2 v_p1_length v_p1_letters)) hr) hP hD hS d_Hall_read_134
      · have hf := o_neg c1 hf
        refine lv_bipush (v := 13) hx hb d_Hall_read_58 (by decide) ?_
        refine lv_iload_n hx hb d_Hall_read_60 rfl (lv_at hl 2 rfl) ?_
        refine lv_bipush (v := 7) hx hb d_Hall_read_61 (by decide) ?_
        refine lv_imul hx hb d_Hall_read_63 ?_
        refine lv_iadd hx hb d_Hall_read_64 ?_
        refine lv_istore_n (lv' := [(3, .int (13 + (x2 * 7))), (0, .ref a_p0), (1, .ref a_p1), (2, .int x2)]) hx hb d_Hall_read_65 rfl hl (by decide) rfl (fun ls hl => ?_)
        refine lv_aload_n hx hb d_Hall_read_66 rfl (lv_at hl 1 rfl) ?_
        refine gf_Hall_15 hC hP 0 rfl rfl d_Hall_read_67 ?_
        refine lv_iload_n hx hb d_Hall_read_70 rfl (lv_at hl 3 rfl) ?_
        refine lv_aload_n hx hb d_Hall_read_71 rfl (lv_at hl 2 rfl) ?_
        refine lv_iload_n hx hb d_Hall_read_72 rfl (lv_at hl 0 rfl) ?_
        refine lv_iconst (v := 1) hx hb d_Hall_read_73 (by decide) ?_
        refine lv_iadd hx hb d_Hall_read_74 ?_
        obtain ⟨r2, h3, hf⟩ := o_bind hf
        refine cVi (rest := [.int x2, .ref a_kinds]) (wr := [(a_p0, .inr (0, [.ref a_layers, .ref a_kinds, .ref a_patiences, .ref a_wanted, .int v_count])), (a_layers, .inl (cI, 12, .inl v_layers)), (a_kinds, .inl (cI, 5, .inl v_kinds)), (a_patiences, .inl (cI, 5, .inl v_patiences)), (a_wanted, .inl (cI, 20, .inl v_wanted))]) (wn := (cs_Hall_read cI cZ a_p0 a_layers a_kinds a_patiences a_wanted a_p1 a_p1_letters v_count v_layers v_kinds v_patiences v_wanted v_p1_length v_p1_letters)) (c_Text_figure l D cI cZ a_p1 a_p1_letters ((13 + (x2 * 7)) + 1) v_p1_length v_p1_letters r2 h3) hC hA hP hD hS hl.1 cw_Hall_28 5 rfl rfl rfl ⟨Nat.le_of_ble_eq_true rfl, Nat.le_of_ble_eq_true rfl⟩ rfl rfl (Nat.le_of_ble_eq_true rfl) d_Hall_read_75 ⟨Nat.zero_le _, Nat.zero_le _⟩ [5, 6] [0, 1, 2, 3, 4] [0, 1, 2, 3, 4, 5, 6] (by decide) (Cut_mk rfl rfl (by decide) (by decide) (by decide) rfl) (fun H locs hP hD hS => ?_)
        obtain ⟨g4, h5, hf⟩ := o_bind hf
        refine r_iast hC hP hD hS 2 rfl h5 d_Hall_read_78 (fun H locs hP hD hS => ?_)
        have hP : va_P D classes (cs_Hall_read cI cZ a_p0 a_layers a_kinds a_patiences a_wanted a_p1 a_p1_letters v_count v_layers g4 v_patiences v_wanted v_p1_length v_p1_letters) H := hP
        have hD : va_D A (cs_Hall_read cI cZ a_p0 a_layers a_kinds a_patiences a_wanted a_p1 a_p1_letters v_count v_layers g4 v_patiences v_wanted v_p1_length v_p1_letters) := hD
        refine lv_aload_n hx hb d_Hall_read_79 rfl (lv_at hl 1 rfl) ?_
        refine gf_Hall_18 hC hP 0 rfl rfl d_Hall_read_80 ?_
        refine lv_iload_n hx hb d_Hall_read_83 rfl (lv_at hl 3 rfl) ?_
        refine lv_aload_n hx hb d_Hall_read_84 rfl (lv_at hl 2 rfl) ?_
        refine lv_iload_n hx hb d_Hall_read_85 rfl (lv_at hl 0 rfl) ?_
        refine lv_iconst (v := 2) hx hb d_Hall_read_86 (by decide) ?_
        refine lv_iadd hx hb d_Hall_read_87 ?_
        obtain ⟨r6, h7, hf⟩ := o_bind hf
        refine cVi (rest := [.int x2, .ref a_patiences]) (wr := [(a_p0, .inr (0, [.ref a_layers, .ref a_kinds, .ref a_patiences, .ref a_wanted, .int v_count])), (a_layers, .inl (cI, 12, .inl v_layers)), (a_kinds, .inl (cI, 5, .inl g4)), (a_patiences, .inl (cI, 5, .inl v_patiences)), (a_wanted, .inl (cI, 20, .inl v_wanted))]) (wn := (cs_Hall_read cI cZ a_p0 a_layers a_kinds a_patiences a_wanted a_p1 a_p1_letters v_count v_layers g4 v_patiences v_wanted v_p1_length v_p1_letters)) (c_Text_figure l D cI cZ a_p1 a_p1_letters ((13 + (x2 * 7)) + 2) v_p1_length v_p1_letters r6 h7) hC hA hP hD hS hl.1 cw_Hall_28 5 rfl rfl rfl ⟨Nat.le_of_ble_eq_true rfl, Nat.le_of_ble_eq_true rfl⟩ rfl rfl (Nat.le_of_ble_eq_true rfl) d_Hall_read_88 ⟨Nat.zero_le _, Nat.zero_le _⟩ [5, 6] [0, 1, 2, 3, 4] [0, 1, 2, 3, 4, 5, 6] (by decide) (Cut_mk rfl rfl (by decide) (by decide) (by decide) rfl) (fun H locs hP hD hS => ?_)
        obtain ⟨g8, h9, hf⟩ := o_bind hf
        refine r_iast hC hP hD hS 3 rfl h9 d_Hall_read_91 (fun H locs hP hD hS => ?_)
        have hP : va_P D classes (cs_Hall_read cI cZ a_p0 a_layers a_kinds a_patiences a_wanted a_p1 a_p1_letters v_count v_layers g4 g8 v_wanted v_p1_length v_p1_letters) H := hP
        have hD : va_D A (cs_Hall_read cI cZ a_p0 a_layers a_kinds a_patiences a_wanted a_p1 a_p1_letters v_count v_layers g4 g8 v_wanted v_p1_length v_p1_letters) := hD
        refine lv_iconst (v := 0) hx hb d_Hall_read_92 (by decide) ?_
        refine lv_istore (lv' := [(4, .int 0), (3, .int (13 + (x2 * 7))), (0, .ref a_p0), (1, .ref a_p1), (2, .int x2)]) hx hb d_Hall_read_93 hl (by decide) rfl (fun ls hl => ?_)
        exact B_95 back_50 K_50 300 x2 (13 + (x2 * 7)) 0 v_count v_layers g4 g8 v_wanted _ _ _ hP hD hS (lv_sub hl [2, 3, 4, 1, 0] rfl) hf
  have B_2 : ∀  (n : Nat) (x2 : Int32) (v_count : Int32) (v_layers : Nat → Int32) (v_kinds : Nat → Int32) (v_patiences : Nat → Int32) (v_wanted : Nat → Int32) (H : Heap) (locs : List Loc) (ls : Array Slot), va_P D classes (cs_Hall_read cI cZ a_p0 a_layers a_kinds a_patiences a_wanted a_p1 a_p1_letters v_count v_layers v_kinds v_patiences v_wanted v_p1_length v_p1_letters) H → va_D A (cs_Hall_read cI cZ a_p0 a_layers a_kinds a_patiences a_wanted a_p1 a_p1_letters v_count v_layers v_kinds v_patiences v_wanted v_p1_length v_p1_letters) → va_S A s.heap H locs → lv_has ls 5 [(0, .ref a_p0), (1, .ref a_p1), (2, .int x2)] → f_Hall_read_2  v_p1_length v_p1_letters n x2 v_count v_layers v_kinds v_patiences v_wanted = some res → W p l e (rm_ 1 (40 * 1)) s m args below meth c H locs 0 0 Q (F0 m 2 ls []) := by
    intro  n
    induction n with
    | zero => intro x2 v_count v_layers v_kinds v_patiences v_wanted H locs ls hP hD hS hl hf; exact nomatch hf
    | succ n ih =>
      intro x2 v_count v_layers v_kinds v_patiences v_wanted H locs ls hP hD hS hl hf
      have hf : f_Hall_read_2_b  (f_Hall_read_2  v_p1_length v_p1_letters n) v_p1_length v_p1_letters x2 v_count v_layers v_kinds v_patiences v_wanted = some res := hf
      generalize f_Hall_read_2  v_p1_length v_p1_letters n = back_2 at ih hf
      have K_2 := ih
      unfold f_Hall_read_2_b at hf
      refine lv_iload_n hx hb d_Hall_read_2 rfl (lv_at hl 2 rfl) ?_
      refine lv_aload_n hx hb d_Hall_read_3 rfl (lv_at hl 0 rfl) ?_
      refine gf_Hall_9 hC hP 0 rfl rfl d_Hall_read_4 ?_
      refine r_alen hC hP 1 rfl d_Hall_read_7 ?_
      refine lv_icmp_ge (tgt := 30) hx hb d_Hall_read_8 (by decide) (fun c1 => ?_) (fun c1 => ?_)
      · have hf := o_pos c1 hf
        refine lv_aload_n hx hb d_Hall_read_30 rfl (lv_at hl 0 rfl) ?_
        refine lv_aload_n hx hb d_Hall_read_31 rfl (lv_at hl 1 rfl) ?_
        refine gf_Hall_34 hC hP 5 rfl rfl d_Hall_read_32 ?_
        refine lv_bipush (v := 13) hx hb d_Hall_read_35 (by decide) ?_
        refine lv_isub hx hb d_Hall_read_37 ?_
        refine lv_bipush (v := 7) hx hb d_Hall_read_38 (by decide) ?_
        refine lv_idiv hx hb d_Hall_read_40 (by decide) ?_
        refine lv_iconst (v := 5) hx hb d_Hall_read_41 (by decide) ?_
        refine va_mmin hx hb (hml.trans hl.1.symm) hown (hts _ g193) (hts _ g194) (hts _ g8) (hts _ g195) (Nat.le_of_ble_eq_true rfl) (Nat.le_of_ble_eq_true rfl) (Nat.zero_le _) (Nat.zero_le _) d_Hall_read_42 ?_
        refine pf_Hall_24 hC hP hD hS 0 rfl (Nat.le_of_ble_eq_true rfl) d_Hall_read_45 (fun H locs hP hD hS => ?_)
        have hP : va_P D classes (cs_Hall_read cI cZ a_p0 a_layers a_kinds a_patiences a_wanted a_p1 a_p1_letters (mnI ((v_p1_length - 13) / 7) 5) v_layers v_kinds v_patiences v_wanted v_p1_length v_p1_letters) H := hP
        have hD : va_D A (cs_Hall_read cI cZ a_p0 a_layers a_kinds a_patiences a_wanted a_p1 a_p1_letters (mnI ((v_p1_length - 13) / 7) 5) v_layers v_kinds v_patiences v_wanted v_p1_length v_p1_letters) := hD
        refine lv_iconst (v := 0) hx hb d_Hall_read_48 (by decide) ?_
        refine lv_istore_n (lv' := [(2, .int 0), (0, .ref a_p0), (1, .ref a_p1)]) hx hb d_Hall_read_49 rfl hl (by decide) rfl (fun ls hl => ?_)
        exact B_50 300 0 (mnI ((v_p1_length - 13) / 7) 5) v_layers v_kinds v_patiences v_wanted _ _ _ hP hD hS (lv_sub hl [1, 2, 0] rfl) hf
      · have hf := o_neg c1 hf
        refine lv_aload_n hx hb d_Hall_read_11 rfl (lv_at hl 0 rfl) ?_
        refine gf_Hall_9 hC hP 0 rfl rfl d_Hall_read_12 ?_
        refine lv_iload_n hx hb d_Hall_read_15 rfl (lv_at hl 2 rfl) ?_
        refine lv_aload_n hx hb d_Hall_read_16 rfl (lv_at hl 1 rfl) ?_
        refine lv_iconst (v := 1) hx hb d_Hall_read_17 (by decide) ?_
        refine lv_iload_n hx hb d_Hall_read_18 rfl (lv_at hl 2 rfl) ?_
        refine lv_iadd hx hb d_Hall_read_19 ?_
        obtain ⟨r2, h3, hf⟩ := o_bind hf
        refine cVi (rest := [.int x2, .ref a_layers]) (wr := [(a_p0, .inr (0, [.ref a_layers, .ref a_kinds, .ref a_patiences, .ref a_wanted, .int v_count])), (a_layers, .inl (cI, 12, .inl v_layers)), (a_kinds, .inl (cI, 5, .inl v_kinds)), (a_patiences, .inl (cI, 5, .inl v_patiences)), (a_wanted, .inl (cI, 20, .inl v_wanted))]) (wn := (cs_Hall_read cI cZ a_p0 a_layers a_kinds a_patiences a_wanted a_p1 a_p1_letters v_count v_layers v_kinds v_patiences v_wanted v_p1_length v_p1_letters)) (c_Text_figure l D cI cZ a_p1 a_p1_letters (1 + x2) v_p1_length v_p1_letters r2 h3) hC hA hP hD hS hl.1 cw_Hall_28 5 rfl rfl rfl ⟨Nat.le_of_ble_eq_true rfl, Nat.le_of_ble_eq_true rfl⟩ rfl rfl (Nat.le_of_ble_eq_true rfl) d_Hall_read_20 ⟨Nat.zero_le _, Nat.zero_le _⟩ [5, 6] [0, 1, 2, 3, 4] [0, 1, 2, 3, 4, 5, 6] (by decide) (Cut_mk rfl rfl (by decide) (by decide) (by decide) rfl) (fun H locs hP hD hS => ?_)
        obtain ⟨g4, h5, hf⟩ := o_bind hf
        refine r_iast hC hP hD hS 1 rfl h5 d_Hall_read_23 (fun H locs hP hD hS => ?_)
        have hP : va_P D classes (cs_Hall_read cI cZ a_p0 a_layers a_kinds a_patiences a_wanted a_p1 a_p1_letters v_count g4 v_kinds v_patiences v_wanted v_p1_length v_p1_letters) H := hP
        have hD : va_D A (cs_Hall_read cI cZ a_p0 a_layers a_kinds a_patiences a_wanted a_p1 a_p1_letters v_count g4 v_kinds v_patiences v_wanted v_p1_length v_p1_letters) := hD
        refine lv_iinc (v := x2 + 1) (lv' := [(2, .int (x2 + 1)), (0, .ref a_p0), (1, .ref a_p1)]) hx hb d_Hall_read_24 hl (k := 2) rfl (rfl) (by decide) rfl (fun ls hl => ?_)
        refine lv_goto (tgt := 2) hx hb d_Hall_read_27 (by decide) ?_
        exact K_2 (x2 + 1) v_count g4 v_kinds v_patiences v_wanted _ _ _ hP hD hS (lv_sub hl [1, 2, 0] rfl) hf
  unfold f_Hall_read at hf
  have E : ∀ (H : Heap) (locs : List Loc), va_P D classes (cs_Hall_read cI cZ a_p0 a_layers a_kinds a_patiences a_wanted a_p1 a_p1_letters v_count v_layers v_kinds v_patiences v_wanted v_p1_length v_p1_letters) H → va_S A s.heap H locs → W p l e (rm_ 1 (40 * 1)) s m args below meth c H locs 0 0 Q (F0 m 0 ls []) := by
    intro H locs hP hS
    refine lv_iconst (v := 0) hx hb d_Hall_read_0 (by decide) ?_
    refine lv_istore_n (lv' := [(2, .int 0), (0, .ref a_p0), (1, .ref a_p1)]) hx hb d_Hall_read_1 rfl hl (by decide) rfl (fun ls hl => ?_)
    exact B_2 300 0 v_count v_layers v_kinds v_patiences v_wanted _ _ _ hP hD hS (lv_sub hl [1, 2, 0] rfl) hf
  exact E _ _ hP hS
set_option maxHeartbeats 4000000 in
set_option maxRecDepth 100000 in
theorem c_Arr_fill (l : Launch) (D : va_G) (cI cZ : ClassId) (a_p0 n_p0 : Nat) (i1 : Int32) (v_p0 : Nat → Int32) (res : (Nat → Int32)) (hf : f_Arr_fill i1 n_p0 v_p0 = some res) : CtV l y_Arr_fill b_Arr_fill 4 none 0 D cI cZ [.ref a_p0, .int i1] (cs_Arr_fill cI cZ a_p0 n_p0 v_p0) (cs_Arr_fill cI cZ a_p0 n_p0 res) := by
  refine CtV_mk (by decide) (Nat.le_of_ble_eq_true rfl) ?_
  intro p e s m args below meth c A Q hC hA hP hD RET ls hl
  have hC : Cx p s m args meth c b_Arr_fill 4 R_Arr D cI cZ := hC
  have hl : lv_has ls 4 [(0, .ref a_p0), (1, .int i1)] := hl
  obtain ⟨hx, hb, hml, hown, hts, hlk, hKK⟩ := id hC
  have hS : va_S A s.heap s.heap [] := va_S.rf
  have B_5 : ∀  (n : Nat) (x1 : Int32) (x2 : Int32) (x3 : Int32) (v_p0 : Nat → Int32) (H : Heap) (locs : List Loc) (ls : Array Slot), va_P D classes (cs_Arr_fill cI cZ a_p0 n_p0 v_p0) H → va_D A (cs_Arr_fill cI cZ a_p0 n_p0 v_p0) → va_S A s.heap H locs → lv_has ls 4 [(0, .ref a_p0), (1, .int x1), (2, .int x2), (3, .int x3)] → f_Arr_fill_5  n_p0 n x1 x2 x3 v_p0 = some res → W p l e (rm_ 0 (40 * 0)) s m args below meth c H locs 0 0 Q (F0 m 5 ls []) := by
    intro  n
    induction n with
    | zero => intro x1 x2 x3 v_p0 H locs ls hP hD hS hl hf; exact nomatch hf
    | succ n ih =>
      intro x1 x2 x3 v_p0 H locs ls hP hD hS hl hf
      have hf : f_Arr_fill_5_b  (f_Arr_fill_5  n_p0 n) n_p0 x1 x2 x3 v_p0 = some res := hf
      generalize f_Arr_fill_5  n_p0 n = back_5 at ih hf
      have K_5 := ih
      unfold f_Arr_fill_5_b at hf
      refine lv_iload_n hx hb d_Arr_fill_5 rfl (lv_at hl 2 rfl) ?_
      refine lv_iload_n hx hb d_Arr_fill_6 rfl (lv_at hl 3 rfl) ?_
      refine lv_icmp_ge (tgt := 20) hx hb d_Arr_fill_7 (by decide) (fun c1 => ?_) (fun c1 => ?_)
      · have hf := o_pos c1 hf
        have hr := Option.some.inj hf
        exact RET _ _ _ _ _ (congrArg (fun r : (Nat → Int32) => (cs_Arr_fill cI cZ a_p0 n_p0 r)) hr) hP hD hS d_Arr_fill_20
      · have hf := o_neg c1 hf
        refine lv_aload_n hx hb d_Arr_fill_10 rfl (lv_at hl 0 rfl) ?_
        refine lv_iload_n hx hb d_Arr_fill_11 rfl (lv_at hl 2 rfl) ?_
        refine lv_iload_n hx hb d_Arr_fill_12 rfl (lv_at hl 1 rfl) ?_
        obtain ⟨g2, h3, hf⟩ := o_bind hf
        refine r_iast hC hP hD hS 0 rfl h3 d_Arr_fill_13 (fun H locs hP hD hS => ?_)
        have hP : va_P D classes (cs_Arr_fill cI cZ a_p0 n_p0 g2) H := hP
        have hD : va_D A (cs_Arr_fill cI cZ a_p0 n_p0 g2) := hD
        refine lv_iinc (v := x2 + 1) (lv' := [(2, .int (x2 + 1)), (0, .ref a_p0), (1, .int x1), (3, .int x3)]) hx hb d_Arr_fill_14 hl (k := 2) rfl (rfl) (by decide) rfl (fun ls hl => ?_)
        refine lv_goto (tgt := 5) hx hb d_Arr_fill_17 (by decide) ?_
        exact K_5 x1 (x2 + 1) x3 g2 _ _ _ hP hD hS (lv_sub hl [1, 2, 0, 3] rfl) hf
  unfold f_Arr_fill at hf
  have E : ∀ (H : Heap) (locs : List Loc), va_P D classes (cs_Arr_fill cI cZ a_p0 n_p0 v_p0) H → va_S A s.heap H locs → W p l e (rm_ 0 (40 * 0)) s m args below meth c H locs 0 0 Q (F0 m 0 ls []) := by
    intro H locs hP hS
    refine lv_iconst (v := 0) hx hb d_Arr_fill_0 (by decide) ?_
    refine lv_istore_n (lv' := [(2, .int 0), (0, .ref a_p0), (1, .int i1)]) hx hb d_Arr_fill_1 rfl hl (by decide) rfl (fun ls hl => ?_)
    refine lv_aload_n hx hb d_Arr_fill_2 rfl (lv_at hl 1 rfl) ?_
    refine r_alen hC hP 0 rfl d_Arr_fill_3 ?_
    refine lv_istore_n (lv' := [(3, .int (Int32.ofNat n_p0)), (2, .int 0), (0, .ref a_p0), (1, .int i1)]) hx hb d_Arr_fill_4 rfl hl (by decide) rfl (fun ls hl => ?_)
    exact B_5 300 i1 0 (Int32.ofNat n_p0) v_p0 _ _ _ hP hD hS (lv_sub hl [2, 3, 1, 0] rfl) hf
  exact E _ _ hP hS
set_option maxHeartbeats 4000000 in
set_option maxRecDepth 100000 in
theorem c_Scene_empty (l : Launch) (D : va_G) (cI cZ : ClassId) (a_p0 a_off a_waited : Nat) (v_nights : Int32) (v_off : Nat → Int32) (v_waited : Nat → Int32) (res : Int32 × (Nat → Int32) × (Nat → Int32)) (hf : f_Scene_empty v_nights v_off v_waited = some res) : CtV l y_Scene_empty b_Scene_empty 1 none 1 D cI cZ [.ref a_p0] (cs_Scene_empty cI cZ a_p0 a_off a_waited v_nights v_off v_waited) (cs_Scene_empty cI cZ a_p0 a_off a_waited res.1 res.2.1 res.2.2) := by
  refine CtV_mk (by decide) (Nat.le_of_ble_eq_true rfl) ?_
  intro p e s m args below meth c A Q hC hA hP hD RET ls hl
  have hC : Cx p s m args meth c b_Scene_empty 1 R_Scene D cI cZ := hC
  have hl : lv_has ls 1 [(0, .ref a_p0)] := hl
  obtain ⟨hx, hb, hml, hown, hts, hlk, hKK⟩ := id hC
  have hS : va_S A s.heap s.heap [] := va_S.rf
  unfold f_Scene_empty at hf
  have E : ∀ (H : Heap) (locs : List Loc), va_P D classes (cs_Scene_empty cI cZ a_p0 a_off a_waited v_nights v_off v_waited) H → va_S A s.heap H locs → W p l e (rm_ 1 (40 * 1)) s m args below meth c H locs 0 0 Q (F0 m 0 ls []) := by
    intro H locs hP hS
    refine lv_aload_n hx hb d_Scene_empty_0 rfl (lv_at hl 0 rfl) ?_
    refine gf_Scene_9 hC hP 0 rfl rfl d_Scene_empty_1 ?_
    refine lv_iconst (v := 0) hx hb d_Scene_empty_4 (by decide) ?_
    obtain ⟨r1, h2, hf⟩ := o_bind hf
    refine cSv (rest := []) (wr := [(a_p0, .inr (2, [.ref a_off, .ref a_waited, .int v_nights])), (a_waited, .inl (cI, 5, .inl v_waited))]) (wn := (cs_Scene_empty cI cZ a_p0 a_off a_waited v_nights r1 v_waited)) (c_Arr_fill l D cI cZ a_off 4 0 v_off r1 h2) hC hA hP hD hS hl.1 cw_Scene_22 ⟨Nat.le_of_ble_eq_true rfl, Nat.le_of_ble_eq_true rfl⟩ rfl rfl (Nat.le_of_ble_eq_true rfl) d_Scene_empty_5 ⟨Nat.zero_le _, Nat.zero_le _⟩ [1] [0, 2] [0, 2, 1] (by decide) (Cut_mk rfl rfl (by decide) (by decide) (by decide) rfl) (fun H locs hP hD hS => ?_)
    refine lv_aload_n hx hb d_Scene_empty_8 rfl (lv_at hl 0 rfl) ?_
    refine gf_Scene_15 hC hP 0 rfl rfl d_Scene_empty_9 ?_
    refine lv_bipush (v := (-9)) hx hb d_Scene_empty_12 (by decide) ?_
    obtain ⟨r3, h4, hf⟩ := o_bind hf
    refine cSv (rest := []) (wr := [(a_p0, .inr (2, [.ref a_off, .ref a_waited, .int v_nights])), (a_off, .inl (cI, 4, .inl r1))]) (wn := (cs_Scene_empty cI cZ a_p0 a_off a_waited v_nights r1 r3)) (c_Arr_fill l D cI cZ a_waited 5 ((-9)) v_waited r3 h4) hC hA hP hD hS hl.1 cw_Scene_22 ⟨Nat.le_of_ble_eq_true rfl, Nat.le_of_ble_eq_true rfl⟩ rfl rfl (Nat.le_of_ble_eq_true rfl) d_Scene_empty_14 ⟨Nat.zero_le _, Nat.zero_le _⟩ [2] [0, 1] [0, 1, 2] (by decide) (Cut_mk rfl rfl (by decide) (by decide) (by decide) rfl) (fun H locs hP hD hS => ?_)
    refine lv_aload_n hx hb d_Scene_empty_17 rfl (lv_at hl 0 rfl) ?_
    refine lv_iconst (v := 0) hx hb d_Scene_empty_18 (by decide) ?_
    refine pf_Scene_18 hC hP hD hS 0 rfl (Nat.le_of_ble_eq_true rfl) d_Scene_empty_19 (fun H locs hP hD hS => ?_)
    have hP : va_P D classes (cs_Scene_empty cI cZ a_p0 a_off a_waited 0 r1 r3) H := hP
    have hD : va_D A (cs_Scene_empty cI cZ a_p0 a_off a_waited 0 r1 r3) := hD
    have hr := Option.some.inj hf
    exact RET _ _ _ _ _ (congrArg (fun r : Int32 × (Nat → Int32) × (Nat → Int32) => (cs_Scene_empty cI cZ a_p0 a_off a_waited r.1 r.2.1 r.2.2)) hr) hP hD hS d_Scene_empty_22
  exact E _ _ hP hS
set_option maxHeartbeats 4000000 in
set_option maxRecDepth 100000 in
theorem c_PR_isFinger (l : Launch) (D : va_G) (cI cZ : ClassId) (i0 : Int32) (res : Int32) (hf : f_PR_isFinger i0 = some res) : CtI l y_PR_isFinger b_PR_isFinger 1 (some .boolean) 0 D cI cZ [.int i0] [] res [] := by
  refine CtI_mk (by decide) (Nat.le_of_ble_eq_true rfl) ?_
  intro p e s m args below meth c A Q hC hA hP hD RET ls hl
  have hC : Cx p s m args meth c b_PR_isFinger 1 R_PR D cI cZ := hC
  have hl : lv_has ls 1 [(0, .int i0)] := hl
  obtain ⟨hx, hb, hml, hown, hts, hlk, hKK⟩ := id hC
  have hS : va_S A s.heap s.heap [] := va_S.rf
  have B_14 : ∀  (w0 : Int32) (H : Heap) (locs : List Loc) (ls : Array Slot), va_P D classes [] H → va_D A [] → va_S A s.heap H locs → lv_has ls 1 [] → f_PR_isFinger_14   w0 = some res → W p l e (rm_ 0 (40 * 0)) s m args below meth c H locs 0 0 Q (F0 m 14 ls [.int w0]) := by
    intro  w0 H locs ls hP hD hS hl hf
    unfold f_PR_isFinger_14 at hf
    obtain ⟨h1, hf⟩ := o_ite hf
    have hr := Option.some.inj hf
    exact RET _ _ _ _ _ _ (narB h1) (congrArg (fun r : Int32 => r) hr) rfl hP hD hS d_PR_isFinger_14
  have B_13 : ∀   (H : Heap) (locs : List Loc) (ls : Array Slot), va_P D classes [] H → va_D A [] → va_S A s.heap H locs → lv_has ls 1 [] → f_PR_isFinger_13    = some res → W p l e (rm_ 0 (40 * 0)) s m args below meth c H locs 0 0 Q (F0 m 13 ls []) := by
    intro   H locs ls hP hD hS hl hf
    unfold f_PR_isFinger_13 at hf
    refine lv_iconst (v := 0) hx hb d_PR_isFinger_13 (by decide) ?_
    exact B_14 0 _ _ _ hP hD hS (lv_sub hl [] rfl) hf
  unfold f_PR_isFinger at hf
  have E : ∀ (H : Heap) (locs : List Loc), va_P D classes [] H → va_S A s.heap H locs → W p l e (rm_ 0 (40 * 0)) s m args below meth c H locs 0 0 Q (F0 m 0 ls []) := by
    intro H locs hP hS
    refine lv_iload_n hx hb d_PR_isFinger_0 rfl (lv_at hl 0 rfl) ?_
    refine lv_if_lt (tgt := 13) hx hb d_PR_isFinger_1 (by decide) (fun c1 => ?_) (fun c1 => ?_)
    · have hf := o_pos c1 hf
      exact B_13 _ _ _ hP hD hS (lv_sub hl [] rfl) hf
    · have hf := o_neg c1 hf
      refine lv_iload_n hx hb d_PR_isFinger_4 rfl (lv_at hl 0 rfl) ?_
      refine lv_iconst (v := 4) hx hb d_PR_isFinger_5 (by decide) ?_
      refine lv_icmp_ge (tgt := 13) hx hb d_PR_isFinger_6 (by decide) (fun c2 => ?_) (fun c2 => ?_)
      · have hf := o_pos c2 hf
        exact B_13 _ _ _ hP hD hS (lv_sub hl [] rfl) hf
      · have hf := o_neg c2 hf
        refine lv_iconst (v := 1) hx hb d_PR_isFinger_9 (by decide) ?_
        refine lv_goto (tgt := 14) hx hb d_PR_isFinger_10 (by decide) ?_
        exact B_14 1 _ _ _ hP hD hS (lv_sub hl [] rfl) hf
  exact E _ _ hP hS
set_option maxHeartbeats 4000000 in
set_option maxRecDepth 100000 in
theorem c_Scene_off (l : Launch) (D : va_G) (cI cZ : ClassId) (a_p0 a_off z_waited : Nat) (i1 : Int32) (v_nights : Int32) (v_off : Nat → Int32) (res : Int32) (hf : f_Scene_off i1 v_off = some res) : CtI l y_Scene_off b_Scene_off 2 (some .int) 1 D cI cZ [.ref a_p0, .int i1] (cs_Scene_off cI cZ a_p0 a_off z_waited v_nights v_off) res (cs_Scene_off cI cZ a_p0 a_off z_waited v_nights v_off) := by
  refine CtI_mk (by decide) (Nat.le_of_ble_eq_true rfl) ?_
  intro p e s m args below meth c A Q hC hA hP hD RET ls hl
  have hC : Cx p s m args meth c b_Scene_off 2 R_Scene D cI cZ := hC
  have hl : lv_has ls 2 [(0, .ref a_p0), (1, .int i1)] := hl
  obtain ⟨hx, hb, hml, hown, hts, hlk, hKK⟩ := id hC
  have hS : va_S A s.heap s.heap [] := va_S.rf
  have B_17 : ∀  (w0 : Int32) (H : Heap) (locs : List Loc) (ls : Array Slot), va_P D classes (cs_Scene_off cI cZ a_p0 a_off z_waited v_nights v_off) H → va_D A (cs_Scene_off cI cZ a_p0 a_off z_waited v_nights v_off) → va_S A s.heap H locs → lv_has ls 2 [] → f_Scene_off_17  v_off w0 = some res → W p l e (rm_ 1 (40 * 1)) s m args below meth c H locs 0 0 Q (F0 m 17 ls [.int w0]) := by
    intro  w0 H locs ls hP hD hS hl hf
    unfold f_Scene_off_17 at hf
    have hr := Option.some.inj hf
    exact RET _ _ _ _ _ _ rfl (congrArg (fun r : Int32 => r) hr) rfl hP hD hS d_Scene_off_17
  unfold f_Scene_off at hf
  have E : ∀ (H : Heap) (locs : List Loc), va_P D classes (cs_Scene_off cI cZ a_p0 a_off z_waited v_nights v_off) H → va_S A s.heap H locs → W p l e (rm_ 1 (40 * 1)) s m args below meth c H locs 0 0 Q (F0 m 0 ls []) := by
    intro H locs hP hS
    refine lv_iload_n hx hb d_Scene_off_0 rfl (lv_at hl 1 rfl) ?_
    obtain ⟨r1, h2, hf⟩ := o_bind hf
    refine cNi0 (rest := []) (c_PR_isFinger l D cI cZ i1 r1 h2) hC hA hP hD hS hl.1 cw_Scene_34 ⟨Nat.le_of_ble_eq_true rfl, Nat.le_of_ble_eq_true rfl⟩ rfl rfl (Nat.le_of_ble_eq_true rfl) d_Scene_off_1 ⟨Nat.zero_le _, Nat.zero_le _⟩ (fun H locs hP hS => ?_)
    refine lv_if_eq (tgt := 16) hx hb d_Scene_off_4 (by decide) (fun c3 => ?_) (fun c3 => ?_)
    · have hf := o_pos c3 hf
      refine lv_iconst (v := 0) hx hb d_Scene_off_16 (by decide) ?_
      exact B_17 0 _ _ _ hP hD hS (lv_sub hl [] rfl) hf
    · have hf := o_neg c3 hf
      refine lv_aload_n hx hb d_Scene_off_7 rfl (lv_at hl 0 rfl) ?_
      refine gf_Scene_9 hC hP 0 rfl rfl d_Scene_off_8 ?_
      refine lv_iload_n hx hb d_Scene_off_11 rfl (lv_at hl 1 rfl) ?_
      obtain ⟨v4, h5, hf⟩ := o_bind hf
      refine r_iald hC hP 1 rfl h5 d_Scene_off_12 ?_
      refine lv_goto (tgt := 17) hx hb d_Scene_off_13 (by decide) ?_
      exact B_17 v4 _ _ _ hP hD hS (lv_sub hl [] rfl) hf
  exact E _ _ hP hS
set_option maxHeartbeats 4000000 in
set_option maxRecDepth 100000 in
theorem c_Hall_layer (l : Launch) (D : va_G) (cI cZ : ClassId) (a_p0 a_layers z_kinds z_patiences z_wanted : Nat) (i1 : Int32) (i2 : Int32) (v_count : Int32) (v_layers : Nat → Int32) (res : Int32) (hf : f_Hall_layer i1 i2 v_layers = some res) : CtI l y_Hall_layer b_Hall_layer 3 (some .int) 1 D cI cZ [.ref a_p0, .int i1, .int i2] (cs_Hall_layer cI cZ a_p0 a_layers z_kinds z_patiences z_wanted v_count v_layers) res (cs_Hall_layer cI cZ a_p0 a_layers z_kinds z_patiences z_wanted v_count v_layers) := by
  refine CtI_mk (by decide) (Nat.le_of_ble_eq_true rfl) ?_
  intro p e s m args below meth c A Q hC hA hP hD RET ls hl
  have hC : Cx p s m args meth c b_Hall_layer 3 R_Hall D cI cZ := hC
  have hl : lv_has ls 3 [(0, .ref a_p0), (1, .int i1), (2, .int i2)] := hl
  obtain ⟨hx, hb, hml, hown, hts, hlk, hKK⟩ := id hC
  have hS : va_S A s.heap s.heap [] := va_S.rf
  have B_30 : ∀  (w0 : Int32) (H : Heap) (locs : List Loc) (ls : Array Slot), va_P D classes (cs_Hall_layer cI cZ a_p0 a_layers z_kinds z_patiences z_wanted v_count v_layers) H → va_D A (cs_Hall_layer cI cZ a_p0 a_layers z_kinds z_patiences z_wanted v_count v_layers) → va_S A s.heap H locs → lv_has ls 3 [] → f_Hall_layer_30  v_layers w0 = some res → W p l e (rm_ 1 (40 * 1)) s m args below meth c H locs 0 0 Q (F0 m 30 ls [.int w0]) := by
    intro  w0 H locs ls hP hD hS hl hf
    unfold f_Hall_layer_30 at hf
    have hr := Option.some.inj hf
    exact RET _ _ _ _ _ _ rfl (congrArg (fun r : Int32 => r) hr) rfl hP hD hS d_Hall_layer_30
  have B_29 : ∀   (H : Heap) (locs : List Loc) (ls : Array Slot), va_P D classes (cs_Hall_layer cI cZ a_p0 a_layers z_kinds z_patiences z_wanted v_count v_layers) H → va_D A (cs_Hall_layer cI cZ a_p0 a_layers z_kinds z_patiences z_wanted v_count v_layers) → va_S A s.heap H locs → lv_has ls 3 [] → f_Hall_layer_29  v_layers  = some res → W p l e (rm_ 1 (40 * 1)) s m args below meth c H locs 0 0 Q (F0 m 29 ls []) := by
    intro   H locs ls hP hD hS hl hf
    unfold f_Hall_layer_29 at hf
    refine lv_iconst (v := 0) hx hb d_Hall_layer_29 (by decide) ?_
    exact B_30 0 _ _ _ hP hD hS (lv_sub hl [] rfl) hf
  unfold f_Hall_layer at hf
  have E : ∀ (H : Heap) (locs : List Loc), va_P D classes (cs_Hall_layer cI cZ a_p0 a_layers z_kinds z_patiences z_wanted v_count v_layers) H → va_S A s.heap H locs → W p l e (rm_ 1 (40 * 1)) s m args below meth c H locs 0 0 Q (F0 m 0 ls []) := by
    intro H locs hP hS
    refine lv_iload_n hx hb d_Hall_layer_0 rfl (lv_at hl 1 rfl) ?_
    obtain ⟨r1, h2, hf⟩ := o_bind hf
    refine cNi0 (rest := []) (c_PR_isFinger l D cI cZ i1 r1 h2) hC hA hP hD hS hl.1 cw_Hall_43 ⟨Nat.le_of_ble_eq_true rfl, Nat.le_of_ble_eq_true rfl⟩ rfl rfl (Nat.le_of_ble_eq_true rfl) d_Hall_layer_1 ⟨Nat.zero_le _, Nat.zero_le _⟩ (fun H locs hP hS => ?_)
    refine lv_if_eq (tgt := 29) hx hb d_Hall_layer_4 (by decide) (fun c3 => ?_) (fun c3 => ?_)
    · have hf := o_pos c3 hf
      exact B_29 _ _ _ hP hD hS (lv_sub hl [] rfl) hf
    · have hf := o_neg c3 hf
      refine lv_iload_n hx hb d_Hall_layer_7 rfl (lv_at hl 2 rfl) ?_
      refine lv_if_lt (tgt := 29) hx hb d_Hall_layer_8 (by decide) (fun c4 => ?_) (fun c4 => ?_)
      · have hf := o_pos c4 hf
        exact B_29 _ _ _ hP hD hS (lv_sub hl [] rfl) hf
      · have hf := o_neg c4 hf
        refine lv_iload_n hx hb d_Hall_layer_11 rfl (lv_at hl 2 rfl) ?_
        refine lv_iconst (v := 3) hx hb d_Hall_layer_12 (by decide) ?_
        refine lv_icmp_ge (tgt := 29) hx hb d_Hall_layer_13 (by decide) (fun c5 => ?_) (fun c5 => ?_)
        · have hf := o_pos c5 hf
          exact B_29 _ _ _ hP hD hS (lv_sub hl [] rfl) hf
        · have hf := o_neg c5 hf
          refine lv_aload_n hx hb d_Hall_layer_16 rfl (lv_at hl 0 rfl) ?_
          refine gf_Hall_9 hC hP 0 rfl rfl d_Hall_layer_17 ?_
          refine lv_iload_n hx hb d_Hall_layer_20 rfl (lv_at hl 1 rfl) ?_
          refine lv_iconst (v := 3) hx hb d_Hall_layer_21 (by decide) ?_
          refine lv_imul hx hb d_Hall_layer_22 ?_
          refine lv_iload_n hx hb d_Hall_layer_23 rfl (lv_at hl 2 rfl) ?_
          refine lv_iadd hx hb d_Hall_layer_24 ?_
          obtain ⟨v6, h7, hf⟩ := o_bind hf
          refine r_iald hC hP 1 rfl h7 d_Hall_layer_25 ?_
          refine lv_goto (tgt := 30) hx hb d_Hall_layer_26 (by decide) ?_
          exact B_30 v6 _ _ _ hP hD hS (lv_sub hl [] rfl) hf
  exact E _ _ hP hS
set_option maxHeartbeats 4000000 in
set_option maxRecDepth 100000 in
theorem c_Hand_showAll (l : Launch) (D : va_G) (cI cZ : ClassId) (a_p0 a_shown a_p1 a_p1_layers a_p2 a_p2_off z_p1_kinds z_p1_patiences z_p1_wanted z_p2_waited : Nat) (v_shown : Nat → Int32) (v_p1_count : Int32) (v_p1_layers : Nat → Int32) (v_p2_nights : Int32) (v_p2_off : Nat → Int32) (res : (Nat → Int32)) (hf : f_Hand_showAll v_p1_layers v_p2_off v_shown = some res) : CtV l y_Hand_showAll b_Hand_showAll 4 none 2 D cI cZ [.ref a_p0, .ref a_p1, .ref a_p2] (cs_Hand_showAll cI cZ a_p0 a_shown a_p1 a_p1_layers a_p2 a_p2_off z_p1_kinds z_p1_patiences z_p1_wanted z_p2_waited v_shown v_p1_count v_p1_layers v_p2_nights v_p2_off) (cs_Hand_showAll cI cZ a_p0 a_shown a_p1 a_p1_layers a_p2 a_p2_off z_p1_kinds z_p1_patiences z_p1_wanted z_p2_waited res v_p1_count v_p1_layers v_p2_nights v_p2_off) := by
  refine CtV_mk (by decide) (Nat.le_of_ble_eq_true rfl) ?_
  intro p e s m args below meth c A Q hC hA hP hD RET ls hl
  have hC : Cx p s m args meth c b_Hand_showAll 4 R_Hand D cI cZ := hC
  have hl : lv_has ls 4 [(0, .ref a_p0), (1, .ref a_p1), (2, .ref a_p2)] := hl
  obtain ⟨hx, hb, hml, hown, hts, hlk, hKK⟩ := id hC
  have hS : va_S A s.heap s.heap [] := va_S.rf
  have B_2 : ∀  (n : Nat) (x3 : Int32) (v_shown : Nat → Int32) (H : Heap) (locs : List Loc) (ls : Array Slot), va_P D classes (cs_Hand_showAll cI cZ a_p0 a_shown a_p1 a_p1_layers a_p2 a_p2_off z_p1_kinds z_p1_patiences z_p1_wanted z_p2_waited v_shown v_p1_count v_p1_layers v_p2_nights v_p2_off) H → va_D A (cs_Hand_showAll cI cZ a_p0 a_shown a_p1 a_p1_layers a_p2 a_p2_off z_p1_kinds z_p1_patiences z_p1_wanted z_p2_waited v_shown v_p1_count v_p1_layers v_p2_nights v_p2_off) → va_S A s.heap H locs → lv_has ls 4 [(0, .ref a_p0), (1, .ref a_p1), (2, .ref a_p2), (3, .int x3)] → f_Hand_showAll_2  v_p1_layers v_p2_off n x3 v_shown = some res → W p l e (rm_ 2 (40 * 2)) s m args below meth c H locs 0 0 Q (F0 m 2 ls []) := by
    intro  n
    induction n with
    | zero => intro x3 v_shown H locs ls hP hD hS hl hf; exact nomatch hf
    | succ n ih =>
      intro x3 v_shown H locs ls hP hD hS hl hf
      have hf : f_Hand_showAll_2_b  (f_Hand_showAll_2  v_p1_layers v_p2_off n) v_p1_layers v_p2_off x3 v_shown = some res := hf
      generalize f_Hand_showAll_2  v_p1_layers v_p2_off n = back_2 at ih hf
      have K_2 := ih
      unfold f_Hand_showAll_2_b at hf
      refine lv_iload_n hx hb d_Hand_showAll_2 rfl (lv_at hl 3 rfl) ?_
      refine lv_iconst (v := 4) hx hb d_Hand_showAll_3 (by decide) ?_
      refine lv_icmp_ge (tgt := 29) hx hb d_Hand_showAll_4 (by decide) (fun c1 => ?_) (fun c1 => ?_)
      · have hf := o_pos c1 hf
        have hr := Option.some.inj hf
        exact RET _ _ _ _ _ (congrArg (fun r : (Nat → Int32) => (cs_Hand_showAll cI cZ a_p0 a_shown a_p1 a_p1_layers a_p2 a_p2_off z_p1_kinds z_p1_patiences z_p1_wanted z_p2_waited r v_p1_count v_p1_layers v_p2_nights v_p2_off)) hr) hP hD hS d_Hand_showAll_29
      · have hf := o_neg c1 hf
        refine lv_aload_n hx hb d_Hand_showAll_7 rfl (lv_at hl 0 rfl) ?_
        refine gf_Hand_9 hC hP 0 rfl rfl d_Hand_showAll_8 ?_
        refine lv_iload_n hx hb d_Hand_showAll_11 rfl (lv_at hl 3 rfl) ?_
        refine lv_aload_n hx hb d_Hand_showAll_12 rfl (lv_at hl 1 rfl) ?_
        refine lv_iload_n hx hb d_Hand_showAll_13 rfl (lv_at hl 3 rfl) ?_
        refine lv_aload_n hx hb d_Hand_showAll_14 rfl (lv_at hl 2 rfl) ?_
        refine lv_iload_n hx hb d_Hand_showAll_15 rfl (lv_at hl 3 rfl) ?_
        obtain ⟨r2, h3, hf⟩ := o_bind hf
        refine cVi (rest := [.int x3, .ref a_p1, .int x3, .ref a_shown]) (wr := [(a_p0, .inr (1, [.ref a_shown])), (a_shown, .inl (cI, 4, .inl v_shown)), (a_p1, .inr (0, [.ref a_p1_layers, .ref z_p1_kinds, .ref z_p1_patiences, .ref z_p1_wanted, .int v_p1_count])), (a_p1_layers, .inl (cI, 12, .inl v_p1_layers))]) (wn := (cs_Hand_showAll cI cZ a_p0 a_shown a_p1 a_p1_layers a_p2 a_p2_off z_p1_kinds z_p1_patiences z_p1_wanted z_p2_waited v_shown v_p1_count v_p1_layers v_p2_nights v_p2_off)) (c_Scene_off l D cI cZ a_p2 a_p2_off z_p2_waited x3 v_p2_nights v_p2_off r2 h3) hC hA hP hD hS hl.1 cw_Hand_19 4 rfl rfl rfl ⟨Nat.le_of_ble_eq_true rfl, Nat.le_of_ble_eq_true rfl⟩ rfl rfl (Nat.le_of_ble_eq_true rfl) d_Hand_showAll_16 ⟨Nat.zero_le _, Nat.zero_le _⟩ [4, 5] [0, 1, 2, 3] [0, 1, 2, 3, 4, 5] (by decide) (Cut_mk rfl rfl (by decide) (by decide) (by decide) rfl) (fun H locs hP hD hS => ?_)
        obtain ⟨r4, h5, hf⟩ := o_bind hf
        refine cVi (rest := [.int x3, .ref a_shown]) (wr := [(a_p0, .inr (1, [.ref a_shown])), (a_shown, .inl (cI, 4, .inl v_shown)), (a_p2, .inr (2, [.ref a_p2_off, .ref z_p2_waited, .int v_p2_nights])), (a_p2_off, .inl (cI, 4, .inl v_p2_off))]) (wn := (cs_Hand_showAll cI cZ a_p0 a_shown a_p1 a_p1_layers a_p2 a_p2_off z_p1_kinds z_p1_patiences z_p1_wanted z_p2_waited v_shown v_p1_count v_p1_layers v_p2_nights v_p2_off)) (c_Hall_layer l D cI cZ a_p1 a_p1_layers z_p1_kinds z_p1_patiences z_p1_wanted x3 r2 v_p1_count v_p1_layers r4 h5) hC hA hP hD hS hl.1 cw_Hand_25 2 rfl rfl rfl ⟨Nat.le_of_ble_eq_true rfl, Nat.le_of_ble_eq_true rfl⟩ rfl rfl (Nat.le_of_ble_eq_true rfl) d_Hand_showAll_19 ⟨Nat.zero_le _, Nat.zero_le _⟩ [2, 3] [0, 1, 4, 5] [0, 1, 4, 5, 2, 3] (by decide) (Cut_mk rfl rfl (by decide) (by decide) (by decide) rfl) (fun H locs hP hD hS => ?_)
        obtain ⟨g6, h7, hf⟩ := o_bind hf
        refine r_iast hC hP hD hS 1 rfl h7 d_Hand_showAll_22 (fun H locs hP hD hS => ?_)
        have hP : va_P D classes (cs_Hand_showAll cI cZ a_p0 a_shown a_p1 a_p1_layers a_p2 a_p2_off z_p1_kinds z_p1_patiences z_p1_wanted z_p2_waited g6 v_p1_count v_p1_layers v_p2_nights v_p2_off) H := hP
        have hD : va_D A (cs_Hand_showAll cI cZ a_p0 a_shown a_p1 a_p1_layers a_p2 a_p2_off z_p1_kinds z_p1_patiences z_p1_wanted z_p2_waited g6 v_p1_count v_p1_layers v_p2_nights v_p2_off) := hD
        refine lv_iinc (v := x3 + 1) (lv' := [(3, .int (x3 + 1)), (0, .ref a_p0), (1, .ref a_p1), (2, .ref a_p2)]) hx hb d_Hand_showAll_23 hl (k := 3) rfl (rfl) (by decide) rfl (fun ls hl => ?_)
        refine lv_goto (tgt := 2) hx hb d_Hand_showAll_26 (by decide) ?_
        exact K_2 (x3 + 1) g6 _ _ _ hP hD hS (lv_sub hl [1, 2, 3, 0] rfl) hf
  unfold f_Hand_showAll at hf
  have E : ∀ (H : Heap) (locs : List Loc), va_P D classes (cs_Hand_showAll cI cZ a_p0 a_shown a_p1 a_p1_layers a_p2 a_p2_off z_p1_kinds z_p1_patiences z_p1_wanted z_p2_waited v_shown v_p1_count v_p1_layers v_p2_nights v_p2_off) H → va_S A s.heap H locs → W p l e (rm_ 2 (40 * 2)) s m args below meth c H locs 0 0 Q (F0 m 0 ls []) := by
    intro H locs hP hS
    refine lv_iconst (v := 0) hx hb d_Hand_showAll_0 (by decide) ?_
    refine lv_istore_n (lv' := [(3, .int 0), (0, .ref a_p0), (1, .ref a_p1), (2, .ref a_p2)]) hx hb d_Hand_showAll_1 rfl hl (by decide) rfl (fun ls hl => ?_)
    exact B_2 300 0 v_shown _ _ _ hP hD hS (lv_sub hl [1, 2, 3, 0] rfl) hf
  exact E _ _ hP hS
set_option maxHeartbeats 4000000 in
set_option maxRecDepth 100000 in
theorem c_Hall_kind (l : Launch) (D : va_G) (cI cZ : ClassId) (a_p0 a_kinds z_layers z_patiences z_wanted : Nat) (i1 : Int32) (v_count : Int32) (v_kinds : Nat → Int32) (res : Int32) (hf : f_Hall_kind i1 v_count v_kinds = some res) : CtI l y_Hall_kind b_Hall_kind 2 (some .int) 0 D cI cZ [.ref a_p0, .int i1] (cs_Hall_kind cI cZ a_p0 a_kinds z_layers z_patiences z_wanted v_count v_kinds) res (cs_Hall_kind cI cZ a_p0 a_kinds z_layers z_patiences z_wanted v_count v_kinds) := by
  refine CtI_mk (by decide) (Nat.le_of_ble_eq_true rfl) ?_
  intro p e s m args below meth c A Q hC hA hP hD RET ls hl
  have hC : Cx p s m args meth c b_Hall_kind 2 R_Hall D cI cZ := hC
  have hl : lv_has ls 2 [(0, .ref a_p0), (1, .int i1)] := hl
  obtain ⟨hx, hb, hml, hown, hts, hlk, hKK⟩ := id hC
  have hS : va_S A s.heap s.heap [] := va_S.rf
  have B_22 : ∀  (w0 : Int32) (H : Heap) (locs : List Loc) (ls : Array Slot), va_P D classes (cs_Hall_kind cI cZ a_p0 a_kinds z_layers z_patiences z_wanted v_count v_kinds) H → va_D A (cs_Hall_kind cI cZ a_p0 a_kinds z_layers z_patiences z_wanted v_count v_kinds) → va_S A s.heap H locs → lv_has ls 2 [] → f_Hall_kind_22  v_count v_kinds w0 = some res → W p l e (rm_ 0 (40 * 0)) s m args below meth c H locs 0 0 Q (F0 m 22 ls [.int w0]) := by
    intro  w0 H locs ls hP hD hS hl hf
    unfold f_Hall_kind_22 at hf
    have hr := Option.some.inj hf
    exact RET _ _ _ _ _ _ rfl (congrArg (fun r : Int32 => r) hr) rfl hP hD hS d_Hall_kind_22
  have B_21 : ∀   (H : Heap) (locs : List Loc) (ls : Array Slot), va_P D classes (cs_Hall_kind cI cZ a_p0 a_kinds z_layers z_patiences z_wanted v_count v_kinds) H → va_D A (cs_Hall_kind cI cZ a_p0 a_kinds z_layers z_patiences z_wanted v_count v_kinds) → va_S A s.heap H locs → lv_has ls 2 [] → f_Hall_kind_21  v_count v_kinds  = some res → W p l e (rm_ 0 (40 * 0)) s m args below meth c H locs 0 0 Q (F0 m 21 ls []) := by
    intro   H locs ls hP hD hS hl hf
    unfold f_Hall_kind_21 at hf
    refine lv_iconst (v := 0) hx hb d_Hall_kind_21 (by decide) ?_
    exact B_22 0 _ _ _ hP hD hS (lv_sub hl [] rfl) hf
  unfold f_Hall_kind at hf
  have E : ∀ (H : Heap) (locs : List Loc), va_P D classes (cs_Hall_kind cI cZ a_p0 a_kinds z_layers z_patiences z_wanted v_count v_kinds) H → va_S A s.heap H locs → W p l e (rm_ 0 (40 * 0)) s m args below meth c H locs 0 0 Q (F0 m 0 ls []) := by
    intro H locs hP hS
    refine lv_iload_n hx hb d_Hall_kind_0 rfl (lv_at hl 1 rfl) ?_
    refine lv_if_lt (tgt := 21) hx hb d_Hall_kind_1 (by decide) (fun c1 => ?_) (fun c1 => ?_)
    · have hf := o_pos c1 hf
      exact B_21 _ _ _ hP hD hS (lv_sub hl [] rfl) hf
    · have hf := o_neg c1 hf
      refine lv_iload_n hx hb d_Hall_kind_4 rfl (lv_at hl 1 rfl) ?_
      refine lv_aload_n hx hb d_Hall_kind_5 rfl (lv_at hl 0 rfl) ?_
      refine gf_Hall_24 hC hP 0 rfl rfl d_Hall_kind_6 ?_
      refine lv_icmp_ge (tgt := 21) hx hb d_Hall_kind_9 (by decide) (fun c2 => ?_) (fun c2 => ?_)
      · have hf := o_pos c2 hf
        exact B_21 _ _ _ hP hD hS (lv_sub hl [] rfl) hf
      · have hf := o_neg c2 hf
        refine lv_aload_n hx hb d_Hall_kind_12 rfl (lv_at hl 0 rfl) ?_
        refine gf_Hall_15 hC hP 0 rfl rfl d_Hall_kind_13 ?_
        refine lv_iload_n hx hb d_Hall_kind_16 rfl (lv_at hl 1 rfl) ?_
        obtain ⟨v3, h4, hf⟩ := o_bind hf
        refine r_iald hC hP 1 rfl h4 d_Hall_kind_17 ?_
        refine lv_goto (tgt := 22) hx hb d_Hall_kind_18 (by decide) ?_
        exact B_22 v3 _ _ _ hP hD hS (lv_sub hl [] rfl) hf
  exact E _ _ hP hS
set_option maxHeartbeats 4000000 in
set_option maxRecDepth 100000 in
theorem c_Hall_wanted (l : Launch) (D : va_G) (cI cZ : ClassId) (a_p0 a_wanted z_layers z_kinds z_patiences : Nat) (i1 : Int32) (i2 : Int32) (v_count : Int32) (v_wanted : Nat → Int32) (res : Int32) (hf : f_Hall_wanted i1 i2 v_count v_wanted = some res) : CtI l y_Hall_wanted b_Hall_wanted 4 (some .int) 0 D cI cZ [.ref a_p0, .int i1, .int i2] (cs_Hall_wanted cI cZ a_p0 a_wanted z_layers z_kinds z_patiences v_count v_wanted) res (cs_Hall_wanted cI cZ a_p0 a_wanted z_layers z_kinds z_patiences v_count v_wanted) := by
  refine CtI_mk (by decide) (Nat.le_of_ble_eq_true rfl) ?_
  intro p e s m args below meth c A Q hC hA hP hD RET ls hl
  have hC : Cx p s m args meth c b_Hall_wanted 4 R_Hall D cI cZ := hC
  have hl : lv_has ls 4 [(0, .ref a_p0), (1, .int i1), (2, .int i2)] := hl
  obtain ⟨hx, hb, hml, hown, hts, hlk, hKK⟩ := id hC
  have hS : va_S A s.heap s.heap [] := va_S.rf
  have B_45 : ∀  (w0 : Int32) (H : Heap) (locs : List Loc) (ls : Array Slot), va_P D classes (cs_Hall_wanted cI cZ a_p0 a_wanted z_layers z_kinds z_patiences v_count v_wanted) H → va_D A (cs_Hall_wanted cI cZ a_p0 a_wanted z_layers z_kinds z_patiences v_count v_wanted) → va_S A s.heap H locs → lv_has ls 4 [] → f_Hall_wanted_45  v_count v_wanted w0 = some res → W p l e (rm_ 0 (40 * 0)) s m args below meth c H locs 0 0 Q (F0 m 45 ls [.int w0]) := by
    intro  w0 H locs ls hP hD hS hl hf
    unfold f_Hall_wanted_45 at hf
    have hr := Option.some.inj hf
    exact RET _ _ _ _ _ _ rfl (congrArg (fun r : Int32 => r) hr) rfl hP hD hS d_Hall_wanted_45
  have B_26 : ∀  (x1 : Int32) (x2 : Int32) (w0 : Int32) (H : Heap) (locs : List Loc) (ls : Array Slot), va_P D classes (cs_Hall_wanted cI cZ a_p0 a_wanted z_layers z_kinds z_patiences v_count v_wanted) H → va_D A (cs_Hall_wanted cI cZ a_p0 a_wanted z_layers z_kinds z_patiences v_count v_wanted) → va_S A s.heap H locs → lv_has ls 4 [(0, .ref a_p0), (1, .int x1), (2, .int x2)] → f_Hall_wanted_26  v_count v_wanted x1 x2 w0 = some res → W p l e (rm_ 0 (40 * 0)) s m args below meth c H locs 0 0 Q (F0 m 26 ls [.int w0]) := by
    intro  x1 x2 w0 H locs ls hP hD hS hl hf
    unfold f_Hall_wanted_26 at hf
    refine lv_istore_n (lv' := [(3, .int w0), (0, .ref a_p0), (1, .int x1), (2, .int x2)]) hx hb d_Hall_wanted_26 rfl hl (by decide) rfl (fun ls hl => ?_)
    refine lv_iload_n hx hb d_Hall_wanted_27 rfl (lv_at hl 0 rfl) ?_
    refine lv_if_eq (tgt := 44) hx hb d_Hall_wanted_28 (by decide) (fun c1 => ?_) (fun c1 => ?_)
    · have hf := o_pos c1 hf
      refine lv_iconst (v := 0) hx hb d_Hall_wanted_44 (by decide) ?_
      exact B_45 0 _ _ _ hP hD hS (lv_sub hl [] rfl) hf
    · have hf := o_neg c1 hf
      refine lv_aload_n hx hb d_Hall_wanted_31 rfl (lv_at hl 1 rfl) ?_
      refine gf_Hall_21 hC hP 0 rfl rfl d_Hall_wanted_32 ?_
      refine lv_iload_n hx hb d_Hall_wanted_35 rfl (lv_at hl 2 rfl) ?_
      refine lv_iconst (v := 4) hx hb d_Hall_wanted_36 (by decide) ?_
      refine lv_imul hx hb d_Hall_wanted_37 ?_
      refine lv_iload_n hx hb d_Hall_wanted_38 rfl (lv_at hl 3 rfl) ?_
      refine lv_iadd hx hb d_Hall_wanted_39 ?_
      obtain ⟨v2, h3, hf⟩ := o_bind hf
      refine r_iald hC hP 1 rfl h3 d_Hall_wanted_40 ?_
      refine lv_goto (tgt := 45) hx hb d_Hall_wanted_41 (by decide) ?_
      exact B_45 v2 _ _ _ hP hD hS (lv_sub hl [] rfl) hf
  have B_25 : ∀  (x1 : Int32) (x2 : Int32) (H : Heap) (locs : List Loc) (ls : Array Slot), va_P D classes (cs_Hall_wanted cI cZ a_p0 a_wanted z_layers z_kinds z_patiences v_count v_wanted) H → va_D A (cs_Hall_wanted cI cZ a_p0 a_wanted z_layers z_kinds z_patiences v_count v_wanted) → va_S A s.heap H locs → lv_has ls 4 [(0, .ref a_p0), (1, .int x1), (2, .int x2)] → f_Hall_wanted_25  v_count v_wanted x1 x2 = some res → W p l e (rm_ 0 (40 * 0)) s m args below meth c H locs 0 0 Q (F0 m 25 ls []) := by
    intro  x1 x2 H locs ls hP hD hS hl hf
    unfold f_Hall_wanted_25 at hf
    refine lv_iconst (v := 0) hx hb d_Hall_wanted_25 (by decide) ?_
    exact B_26 x1 x2 0 _ _ _ hP hD hS (lv_sub hl [0, 1, 2] rfl) hf
  unfold f_Hall_wanted at hf
  have E : ∀ (H : Heap) (locs : List Loc), va_P D classes (cs_Hall_wanted cI cZ a_p0 a_wanted z_layers z_kinds z_patiences v_count v_wanted) H → va_S A s.heap H locs → W p l e (rm_ 0 (40 * 0)) s m args below meth c H locs 0 0 Q (F0 m 0 ls []) := by
    intro H locs hP hS
    refine lv_iload_n hx hb d_Hall_wanted_0 rfl (lv_at hl 1 rfl) ?_
    refine lv_if_lt (tgt := 25) hx hb d_Hall_wanted_1 (by decide) (fun c1 => ?_) (fun c1 => ?_)
    · have hf := o_pos c1 hf
      exact B_25 i1 i2 _ _ _ hP hD hS (lv_sub hl [0, 1, 2] rfl) hf
    · have hf := o_neg c1 hf
      refine lv_iload_n hx hb d_Hall_wanted_4 rfl (lv_at hl 1 rfl) ?_
      refine lv_aload_n hx hb d_Hall_wanted_5 rfl (lv_at hl 0 rfl) ?_
      refine gf_Hall_24 hC hP 0 rfl rfl d_Hall_wanted_6 ?_
      refine lv_icmp_ge (tgt := 25) hx hb d_Hall_wanted_9 (by decide) (fun c2 => ?_) (fun c2 => ?_)
      · have hf := o_pos c2 hf
        exact B_25 i1 i2 _ _ _ hP hD hS (lv_sub hl [0, 1, 2] rfl) hf
      · have hf := o_neg c2 hf
        refine lv_iload_n hx hb d_Hall_wanted_12 rfl (lv_at hl 2 rfl) ?_
        refine lv_if_lt (tgt := 25) hx hb d_Hall_wanted_13 (by decide) (fun c3 => ?_) (fun c3 => ?_)
        · have hf := o_pos c3 hf
          exact B_25 i1 i2 _ _ _ hP hD hS (lv_sub hl [0, 1, 2] rfl) hf
        · have hf := o_neg c3 hf
          refine lv_iload_n hx hb d_Hall_wanted_16 rfl (lv_at hl 2 rfl) ?_
          refine lv_iconst (v := 4) hx hb d_Hall_wanted_17 (by decide) ?_
          refine lv_icmp_ge (tgt := 25) hx hb d_Hall_wanted_18 (by decide) (fun c4 => ?_) (fun c4 => ?_)
          · have hf := o_pos c4 hf
            exact B_25 i1 i2 _ _ _ hP hD hS (lv_sub hl [0, 1, 2] rfl) hf
          · have hf := o_neg c4 hf
            refine lv_iconst (v := 1) hx hb d_Hall_wanted_21 (by decide) ?_
            refine lv_goto (tgt := 26) hx hb d_Hall_wanted_22 (by decide) ?_
            exact B_26 i1 i2 1 _ _ _ hP hD hS (lv_sub hl [0, 1, 2] rfl) hf
  exact E _ _ hP hS
set_option maxHeartbeats 4000000 in
set_option maxRecDepth 100000 in
theorem c_Hand_hails (l : Launch) (D : va_G) (cI cZ : ClassId) (a_p0 a_shown a_p1 a_p1_kinds a_p1_wanted z_p1_layers z_p1_patiences : Nat) (i2 : Int32) (v_shown : Nat → Int32) (v_p1_count : Int32) (v_p1_kinds : Nat → Int32) (v_p1_wanted : Nat → Int32) (res : Int32) (hf : f_Hand_hails i2 v_shown v_p1_count v_p1_kinds v_p1_wanted = some res) : CtI l y_Hand_hails b_Hand_hails 8 (some .boolean) 1 D cI cZ [.ref a_p0, .ref a_p1, .int i2] (cs_Hand_hails cI cZ a_p0 a_shown a_p1 a_p1_kinds a_p1_wanted z_p1_layers z_p1_patiences v_shown v_p1_count v_p1_kinds v_p1_wanted) res (cs_Hand_hails cI cZ a_p0 a_shown a_p1 a_p1_kinds a_p1_wanted z_p1_layers z_p1_patiences v_shown v_p1_count v_p1_kinds v_p1_wanted) := by
  refine CtI_mk (by decide) (Nat.le_of_ble_eq_true rfl) ?_
  intro p e s m args below meth c A Q hC hA hP hD RET ls hl
  have hC : Cx p s m args meth c b_Hand_hails 8 R_Hand D cI cZ := hC
  have hl : lv_has ls 8 [(0, .ref a_p0), (1, .ref a_p1), (2, .int i2)] := hl
  obtain ⟨hx, hb, hml, hown, hts, hlk, hKK⟩ := id hC
  have hS : va_S A s.heap s.heap [] := va_S.rf
  have B_113 : ∀  (w0 : Int32) (H : Heap) (locs : List Loc) (ls : Array Slot), va_P D classes (cs_Hand_hails cI cZ a_p0 a_shown a_p1 a_p1_kinds a_p1_wanted z_p1_layers z_p1_patiences v_shown v_p1_count v_p1_kinds v_p1_wanted) H → va_D A (cs_Hand_hails cI cZ a_p0 a_shown a_p1 a_p1_kinds a_p1_wanted z_p1_layers z_p1_patiences v_shown v_p1_count v_p1_kinds v_p1_wanted) → va_S A s.heap H locs → lv_has ls 8 [] → f_Hand_hails_113  v_shown v_p1_count v_p1_kinds v_p1_wanted w0 = some res → W p l e (rm_ 1 (40 * 1)) s m args below meth c H locs 0 0 Q (F0 m 113 ls [.int w0]) := by
    intro  w0 H locs ls hP hD hS hl hf
    unfold f_Hand_hails_113 at hf
    obtain ⟨h1, hf⟩ := o_ite hf
    have hr := Option.some.inj hf
    exact RET _ _ _ _ _ _ (narB h1) (congrArg (fun r : Int32 => r) hr) rfl hP hD hS d_Hand_hails_113
  have B_108 : ∀   (H : Heap) (locs : List Loc) (ls : Array Slot), va_P D classes (cs_Hand_hails cI cZ a_p0 a_shown a_p1 a_p1_kinds a_p1_wanted z_p1_layers z_p1_patiences v_shown v_p1_count v_p1_kinds v_p1_wanted) H → va_D A (cs_Hand_hails cI cZ a_p0 a_shown a_p1 a_p1_kinds a_p1_wanted z_p1_layers z_p1_patiences v_shown v_p1_count v_p1_kinds v_p1_wanted) → va_S A s.heap H locs → lv_has ls 8 [] → f_Hand_hails_108  v_shown v_p1_count v_p1_kinds v_p1_wanted  = some res → W p l e (rm_ 1 (40 * 1)) s m args below meth c H locs 0 0 Q (F0 m 108 ls []) := by
    intro   H locs ls hP hD hS hl hf
    unfold f_Hand_hails_108 at hf
    refine lv_iconst (v := 1) hx hb d_Hand_hails_108 (by decide) ?_
    refine lv_goto (tgt := 113) hx hb d_Hand_hails_109 (by decide) ?_
    exact B_113 1 _ _ _ hP hD hS (lv_sub hl [] rfl) hf
  have B_69 : ∀   (H : Heap) (locs : List Loc) (ls : Array Slot), va_P D classes (cs_Hand_hails cI cZ a_p0 a_shown a_p1 a_p1_kinds a_p1_wanted z_p1_layers z_p1_patiences v_shown v_p1_count v_p1_kinds v_p1_wanted) H → va_D A (cs_Hand_hails cI cZ a_p0 a_shown a_p1 a_p1_kinds a_p1_wanted z_p1_layers z_p1_patiences v_shown v_p1_count v_p1_kinds v_p1_wanted) → va_S A s.heap H locs → lv_has ls 8 [] → f_Hand_hails_69  v_shown v_p1_count v_p1_kinds v_p1_wanted  = some res → W p l e (rm_ 1 (40 * 1)) s m args below meth c H locs 0 0 Q (F0 m 69 ls []) := by
    intro   H locs ls hP hD hS hl hf
    unfold f_Hand_hails_69 at hf
    refine lv_iconst (v := 0) hx hb d_Hand_hails_69 (by decide) ?_
    have hr := Option.some.inj hf
    exact RET _ _ _ _ _ _ rfl (congrArg (fun r : Int32 => r) hr) rfl hP hD hS d_Hand_hails_70
  have B_89 : ∀ (back_24 : Int32 → Int32 → Int32 → Int32 → Int32 → Option Int32) (K_24 : ∀ (x2 : Int32) (x3 : Int32) (x4 : Int32) (x5 : Int32) (x6 : Int32) (H : Heap) (locs : List Loc) (ls : Array Slot), va_P D classes (cs_Hand_hails cI cZ a_p0 a_shown a_p1 a_p1_kinds a_p1_wanted z_p1_layers z_p1_patiences v_shown v_p1_count v_p1_kinds v_p1_wanted) H → va_D A (cs_Hand_hails cI cZ a_p0 a_shown a_p1 a_p1_kinds a_p1_wanted z_p1_layers z_p1_patiences v_shown v_p1_count v_p1_kinds v_p1_wanted) → va_S A s.heap H locs → lv_has ls 8 [(0, .ref a_p0), (1, .ref a_p1), (2, .int x2), (3, .int x3), (4, .int x4), (5, .int x5), (6, .int x6)] → back_24 x2 x3 x4 x5 x6 = some res → W p l e (rm_ 1 (40 * 1)) s m args below meth c H locs 0 0 Q (F0 m 24 ls [])) (x2 : Int32) (x3 : Int32) (x4 : Int32) (x6 : Int32) (w0 : Int32) (w1 : Int32) (H : Heap) (locs : List Loc) (ls : Array Slot), va_P D classes (cs_Hand_hails cI cZ a_p0 a_shown a_p1 a_p1_kinds a_p1_wanted z_p1_layers z_p1_patiences v_shown v_p1_count v_p1_kinds v_p1_wanted) H → va_D A (cs_Hand_hails cI cZ a_p0 a_shown a_p1 a_p1_kinds a_p1_wanted z_p1_layers z_p1_patiences v_shown v_p1_count v_p1_kinds v_p1_wanted) → va_S A s.heap H locs → lv_has ls 8 [(0, .ref a_p0), (1, .ref a_p1), (2, .int x2), (3, .int x3), (4, .int x4), (6, .int x6)] → f_Hand_hails_89 back_24 v_shown v_p1_count v_p1_kinds v_p1_wanted x2 x3 x4 x6 w0 w1 = some res → W p l e (rm_ 1 (40 * 1)) s m args below meth c H locs 0 0 Q (F0 m 89 ls [.int w1, .int w0]) := by
    intro back_24 K_24 x2 x3 x4 x6 w0 w1 H locs ls hP hD hS hl hf
    unfold f_Hand_hails_89 at hf
    refine lv_ior hx hb d_Hand_hails_89 ?_
    refine lv_istore (lv' := [(5, .int (w0 ||| w1)), (0, .ref a_p0), (1, .ref a_p1), (2, .int x2), (3, .int x3), (4, .int x4), (6, .int x6)]) hx hb d_Hand_hails_90 hl (by decide) rfl (fun ls hl => ?_)
    refine lv_iinc (v := x6 + 1) (lv' := [(6, .int (x6 + 1)), (5, .int (w0 ||| w1)), (0, .ref a_p0), (1, .ref a_p1), (2, .int x2), (3, .int x3), (4, .int x4)]) hx hb d_Hand_hails_92 hl (k := 6) rfl (rfl) (by decide) rfl (fun ls hl => ?_)
    refine lv_goto (tgt := 24) hx hb d_Hand_hails_95 (by decide) ?_
    exact K_24 x2 x3 x4 (w0 ||| w1) (x6 + 1) _ _ _ hP hD hS (lv_sub hl [2, 3, 4, 5, 6, 1, 0] rfl) hf
  have B_71 : ∀ (back_24 : Int32 → Int32 → Int32 → Int32 → Int32 → Option Int32) (K_24 : ∀ (x2 : Int32) (x3 : Int32) (x4 : Int32) (x5 : Int32) (x6 : Int32) (H : Heap) (locs : List Loc) (ls : Array Slot), va_P D classes (cs_Hand_hails cI cZ a_p0 a_shown a_p1 a_p1_kinds a_p1_wanted z_p1_layers z_p1_patiences v_shown v_p1_count v_p1_kinds v_p1_wanted) H → va_D A (cs_Hand_hails cI cZ a_p0 a_shown a_p1 a_p1_kinds a_p1_wanted z_p1_layers z_p1_patiences v_shown v_p1_count v_p1_kinds v_p1_wanted) → va_S A s.heap H locs → lv_has ls 8 [(0, .ref a_p0), (1, .ref a_p1), (2, .int x2), (3, .int x3), (4, .int x4), (5, .int x5), (6, .int x6)] → back_24 x2 x3 x4 x5 x6 = some res → W p l e (rm_ 1 (40 * 1)) s m args below meth c H locs 0 0 Q (F0 m 24 ls [])) (x2 : Int32) (x3 : Int32) (x4 : Int32) (x5 : Int32) (x6 : Int32) (H : Heap) (locs : List Loc) (ls : Array Slot), va_P D classes (cs_Hand_hails cI cZ a_p0 a_shown a_p1 a_p1_kinds a_p1_wanted z_p1_layers z_p1_patiences v_shown v_p1_count v_p1_kinds v_p1_wanted) H → va_D A (cs_Hand_hails cI cZ a_p0 a_shown a_p1 a_p1_kinds a_p1_wanted z_p1_layers z_p1_patiences v_shown v_p1_count v_p1_kinds v_p1_wanted) → va_S A s.heap H locs → lv_has ls 8 [(0, .ref a_p0), (1, .ref a_p1), (2, .int x2), (3, .int x3), (4, .int x4), (5, .int x5), (6, .int x6)] → f_Hand_hails_71 back_24 v_shown v_p1_count v_p1_kinds v_p1_wanted x2 x3 x4 x5 x6 = some res → W p l e (rm_ 1 (40 * 1)) s m args below meth c H locs 0 0 Q (F0 m 71 ls []) := by
    intro back_24 K_24 x2 x3 x4 x5 x6 H locs ls hP hD hS hl hf
    unfold f_Hand_hails_71 at hf
    refine lv_iload hx hb d_Hand_hails_71 (lv_at hl 5 rfl) ?_
    refine lv_aload_n hx hb d_Hand_hails_73 rfl (lv_at hl 0 rfl) ?_
    refine gf_Hand_9 hC hP 0 rfl rfl d_Hand_hails_74 ?_
    refine lv_iload hx hb d_Hand_hails_77 (lv_at hl 6 rfl) ?_
    obtain ⟨v1, h2, hf⟩ := o_bind hf
    refine r_iald hC hP 1 rfl h2 d_Hand_hails_79 ?_
    refine lv_iconst (v := 2) hx hb d_Hand_hails_80 (by decide) ?_
    refine lv_icmp_ne (tgt := 88) hx hb d_Hand_hails_81 (by decide) (fun c3 => ?_) (fun c3 => ?_)
    · have hf := o_neg c3 hf
      refine lv_iconst (v := 0) hx hb d_Hand_hails_88 (by decide) ?_
      exact B_89 back_24 K_24 x2 x3 x4 x6 x5 0 _ _ _ hP hD hS (lv_sub hl [0, 1, 2, 3, 4, 6] rfl) hf
    · have hf := o_pos c3 hf
      refine lv_iconst (v := 1) hx hb d_Hand_hails_84 (by decide) ?_
      refine lv_goto (tgt := 89) hx hb d_Hand_hails_85 (by decide) ?_
      exact B_89 back_24 K_24 x2 x3 x4 x6 x5 1 _ _ _ hP hD hS (lv_sub hl [0, 1, 2, 3, 4, 6] rfl) hf
  have B_24 : ∀  (n : Nat) (x2 : Int32) (x3 : Int32) (x4 : Int32) (x5 : Int32) (x6 : Int32) (H : Heap) (locs : List Loc) (ls : Array Slot), va_P D classes (cs_Hand_hails cI cZ a_p0 a_shown a_p1 a_p1_kinds a_p1_wanted z_p1_layers z_p1_patiences v_shown v_p1_count v_p1_kinds v_p1_wanted) H → va_D A (cs_Hand_hails cI cZ a_p0 a_shown a_p1 a_p1_kinds a_p1_wanted z_p1_layers z_p1_patiences v_shown v_p1_count v_p1_kinds v_p1_wanted) → va_S A s.heap H locs → lv_has ls 8 [(0, .ref a_p0), (1, .ref a_p1), (2, .int x2), (3, .int x3), (4, .int x4), (5, .int x5), (6, .int x6)] → f_Hand_hails_24  v_shown v_p1_count v_p1_kinds v_p1_wanted n x2 x3 x4 x5 x6 = some res → W p l e (rm_ 1 (40 * 1)) s m args below meth c H locs 0 0 Q (F0 m 24 ls []) := by
    intro  n
    induction n with
    | zero => intro x2 x3 x4 x5 x6 H locs ls hP hD hS hl hf; exact nomatch hf
    | succ n ih =>
      intro x2 x3 x4 x5 x6 H locs ls hP hD hS hl hf
      have hf : f_Hand_hails_24_b  (f_Hand_hails_24  v_shown v_p1_count v_p1_kinds v_p1_wanted n) v_shown v_p1_count v_p1_kinds v_p1_wanted x2 x3 x4 x5 x6 = some res := hf
      generalize f_Hand_hails_24  v_shown v_p1_count v_p1_kinds v_p1_wanted n = back_24 at ih hf
      have K_24 := ih
      unfold f_Hand_hails_24_b at hf
      refine lv_iload hx hb d_Hand_hails_24 (lv_at hl 6 rfl) ?_
      refine lv_iload hx hb d_Hand_hails_26 (lv_at hl 4 rfl) ?_
      refine lv_icmp_ge (tgt := 98) hx hb d_Hand_hails_28 (by decide) (fun c1 => ?_) (fun c1 => ?_)
      · have hf := o_pos c1 hf
        refine lv_iload_n hx hb d_Hand_hails_98 rfl (lv_at hl 3 rfl) ?_
        refine lv_iconst (v := 2) hx hb d_Hand_hails_99 (by decide) ?_
        refine lv_icmp_ne (tgt := 108) hx hb d_Hand_hails_100 (by decide) (fun c2 => ?_) (fun c2 => ?_)
        · have hf := o_neg c2 hf
          exact B_108 _ _ _ hP hD hS (lv_sub hl [] rfl) hf
        · have hf := o_pos c2 hf
          refine lv_iload hx hb d_Hand_hails_103 (lv_at hl 5 rfl) ?_
          refine lv_if_eq (tgt := 112) hx hb d_Hand_hails_105 (by decide) (fun c3 => ?_) (fun c3 => ?_)
          · have hf := o_pos c3 hf
            refine lv_iconst (v := 0) hx hb d_Hand_hails_112 (by decide) ?_
            exact B_113 0 _ _ _ hP hD hS (lv_sub hl [] rfl) hf
          · have hf := o_neg c3 hf
            exact B_108 _ _ _ hP hD hS (lv_sub hl [] rfl) hf
      · have hf := o_neg c1 hf
        refine lv_aload_n hx hb d_Hand_hails_31 rfl (lv_at hl 1 rfl) ?_
        refine lv_iload_n hx hb d_Hand_hails_32 rfl (lv_at hl 2 rfl) ?_
        refine lv_iload hx hb d_Hand_hails_33 (lv_at hl 6 rfl) ?_
        obtain ⟨r4, h5, hf⟩ := o_bind hf
        refine cVi (rest := []) (wr := [(a_p0, .inr (1, [.ref a_shown])), (a_shown, .inl (cI, 4, .inl v_shown)), (a_p1_kinds, .inl (cI, 5, .inl v_p1_kinds))]) (wn := (cs_Hand_hails cI cZ a_p0 a_shown a_p1 a_p1_kinds a_p1_wanted z_p1_layers z_p1_patiences v_shown v_p1_count v_p1_kinds v_p1_wanted)) (c_Hall_wanted l D cI cZ a_p1 a_p1_wanted z_p1_layers a_p1_kinds z_p1_patiences x2 x6 v_p1_count v_p1_wanted r4 h5) hC hA hP hD hS hl.1 cw_Hand_42 2 rfl rfl rfl ⟨Nat.le_of_ble_eq_true rfl, Nat.le_of_ble_eq_true rfl⟩ rfl rfl (Nat.le_of_ble_eq_true rfl) d_Hand_hails_35 ⟨Nat.zero_le _, Nat.zero_le _⟩ [2, 4] [0, 1, 3] [0, 1, 3, 2, 4] (by decide) (Cut_mk rfl rfl (by decide) (by decide) (by decide) rfl) (fun H locs hP hD hS => ?_)
        refine lv_istore (lv' := [(7, .int r4), (0, .ref a_p0), (1, .ref a_p1), (2, .int x2), (3, .int x3), (4, .int x4), (5, .int x5), (6, .int x6)]) hx hb d_Hand_hails_38 hl (by decide) rfl (fun ls hl => ?_)
        refine lv_aload_n hx hb d_Hand_hails_40 rfl (lv_at hl 1 rfl) ?_
        refine gf_Hand_9 hC hP 0 rfl rfl d_Hand_hails_41 ?_
        refine lv_iload hx hb d_Hand_hails_44 (lv_at hl 7 rfl) ?_
        obtain ⟨v6, h7, hf⟩ := o_bind hf
        refine r_iald hC hP 1 rfl h7 d_Hand_hails_46 ?_
        refine lv_iconst (v := (-1)) hx hb d_Hand_hails_47 (by decide) ?_
        refine lv_icmp_eq (tgt := 69) hx hb d_Hand_hails_48 (by decide) (fun c8 => ?_) (fun c8 => ?_)
        · have hf := o_pos c8 hf
          exact B_69 _ _ _ hP hD hS (lv_sub hl [] rfl) hf
        · have hf := o_neg c8 hf
          refine lv_iload hx hb d_Hand_hails_51 (lv_at hl 0 rfl) ?_
          refine lv_iconst (v := 3) hx hb d_Hand_hails_53 (by decide) ?_
          refine lv_icmp_eq (tgt := 71) hx hb d_Hand_hails_54 (by decide) (fun c9 => ?_) (fun c9 => ?_)
          · have hf := o_pos c9 hf
            exact B_71 back_24 K_24 x2 x3 x4 x5 x6 _ _ _ hP hD hS (lv_sub hl [1, 2, 3, 4, 5, 6, 7] rfl) hf
          · have hf := o_neg c9 hf
            refine lv_iload hx hb d_Hand_hails_57 (lv_at hl 0 rfl) ?_
            refine lv_aload_n hx hb d_Hand_hails_59 rfl (lv_at hl 1 rfl) ?_
            refine gf_Hand_9 hC hP 0 rfl rfl d_Hand_hails_60 ?_
            refine lv_iload hx hb d_Hand_hails_63 (lv_at hl 7 rfl) ?_
            obtain ⟨v10, h11, hf⟩ := o_bind hf
            refine r_iald hC hP 1 rfl h11 d_Hand_hails_65 ?_
            refine lv_icmp_eq (tgt := 71) hx hb d_Hand_hails_66 (by decide) (fun c12 => ?_) (fun c12 => ?_)
            · have hf := o_pos c12 hf
              exact B_71 back_24 K_24 x2 x3 x4 x5 x6 _ _ _ hP hD hS (lv_sub hl [1, 2, 3, 4, 5, 6, 7] rfl) hf
            · have hf := o_neg c12 hf
              exact B_69 _ _ _ hP hD hS (lv_sub hl [] rfl) hf
  have B_16 : ∀  (x2 : Int32) (x3 : Int32) (w0 : Int32) (H : Heap) (locs : List Loc) (ls : Array Slot), va_P D classes (cs_Hand_hails cI cZ a_p0 a_shown a_p1 a_p1_kinds a_p1_wanted z_p1_layers z_p1_patiences v_shown v_p1_count v_p1_kinds v_p1_wanted) H → va_D A (cs_Hand_hails cI cZ a_p0 a_shown a_p1 a_p1_kinds a_p1_wanted z_p1_layers z_p1_patiences v_shown v_p1_count v_p1_kinds v_p1_wanted) → va_S A s.heap H locs → lv_has ls 8 [(0, .ref a_p0), (1, .ref a_p1), (2, .int x2), (3, .int x3)] → f_Hand_hails_16  v_shown v_p1_count v_p1_kinds v_p1_wanted x2 x3 w0 = some res → W p l e (rm_ 1 (40 * 1)) s m args below meth c H locs 0 0 Q (F0 m 16 ls [.int w0]) := by
    intro  x2 x3 w0 H locs ls hP hD hS hl hf
    unfold f_Hand_hails_16 at hf
    refine lv_istore (lv' := [(4, .int w0), (0, .ref a_p0), (1, .ref a_p1), (2, .int x2), (3, .int x3)]) hx hb d_Hand_hails_16 hl (by decide) rfl (fun ls hl => ?_)
    refine lv_iconst (v := 0) hx hb d_Hand_hails_18 (by decide) ?_
    refine lv_istore (lv' := [(5, .int 0), (4, .int w0), (0, .ref a_p0), (1, .ref a_p1), (2, .int x2), (3, .int x3)]) hx hb d_Hand_hails_19 hl (by decide) rfl (fun ls hl => ?_)
    refine lv_iconst (v := 0) hx hb d_Hand_hails_21 (by decide) ?_
    refine lv_istore (lv' := [(6, .int 0), (5, .int 0), (4, .int w0), (0, .ref a_p0), (1, .ref a_p1), (2, .int x2), (3, .int x3)]) hx hb d_Hand_hails_22 hl (by decide) rfl (fun ls hl => ?_)
    exact B_24 300 x2 x3 w0 0 0 _ _ _ hP hD hS (lv_sub hl [3, 4, 5, 6, 2, 1, 0] rfl) hf
  unfold f_Hand_hails at hf
  have E : ∀ (H : Heap) (locs : List Loc), va_P D classes (cs_Hand_hails cI cZ a_p0 a_shown a_p1 a_p1_kinds a_p1_wanted z_p1_layers z_p1_patiences v_shown v_p1_count v_p1_kinds v_p1_wanted) H → va_S A s.heap H locs → W p l e (rm_ 1 (40 * 1)) s m args below meth c H locs 0 0 Q (F0 m 0 ls []) := by
    intro H locs hP hS
    refine lv_aload_n hx hb d_Hand_hails_0 rfl (lv_at hl 1 rfl) ?_
    refine lv_iload_n hx hb d_Hand_hails_1 rfl (lv_at hl 2 rfl) ?_
    obtain ⟨r1, h2, hf⟩ := o_bind hf
    refine cVi (rest := []) (wr := [(a_p0, .inr (1, [.ref a_shown])), (a_shown, .inl (cI, 4, .inl v_shown)), (a_p1_wanted, .inl (cI, 20, .inl v_p1_wanted))]) (wn := (cs_Hand_hails cI cZ a_p0 a_shown a_p1 a_p1_kinds a_p1_wanted z_p1_layers z_p1_patiences v_shown v_p1_count v_p1_kinds v_p1_wanted)) (c_Hall_kind l D cI cZ a_p1 a_p1_kinds z_p1_layers z_p1_patiences a_p1_wanted i2 v_p1_count v_p1_kinds r1 h2) hC hA hP hD hS hl.1 cw_Hand_39 2 rfl rfl rfl ⟨Nat.le_of_ble_eq_true rfl, Nat.le_of_ble_eq_true rfl⟩ rfl rfl (Nat.le_of_ble_eq_true rfl) d_Hand_hails_2 ⟨Nat.zero_le _, Nat.zero_le _⟩ [2, 3] [0, 1, 4] [0, 1, 3, 4, 2] (by decide) (Cut_mk rfl rfl (by decide) (by decide) (by decide) rfl) (fun H locs hP hD hS => ?_)
    refine lv_istore_n (lv' := [(3, .int r1), (0, .ref a_p0), (1, .ref a_p1), (2, .int i2)]) hx hb d_Hand_hails_5 rfl hl (by decide) rfl (fun ls hl => ?_)
    refine lv_iload_n hx hb d_Hand_hails_6 rfl (lv_at hl 0 rfl) ?_
    refine lv_iconst (v := 1) hx hb d_Hand_hails_7 (by decide) ?_
    refine lv_icmp_ne (tgt := 15) hx hb d_Hand_hails_8 (by decide) (fun c3 => ?_) (fun c3 => ?_)
    · have hf := o_neg c3 hf
      refine lv_iconst (v := 4) hx hb d_Hand_hails_15 (by decide) ?_
      exact B_16 i2 r1 4 _ _ _ hP hD hS (lv_sub hl [1, 2, 3, 0] rfl) hf
    · have hf := o_pos c3 hf
      refine lv_iconst (v := 2) hx hb d_Hand_hails_11 (by decide) ?_
      refine lv_goto (tgt := 16) hx hb d_Hand_hails_12 (by decide) ?_
      exact B_16 i2 r1 2 _ _ _ hP hD hS (lv_sub hl [1, 2, 3, 0] rfl) hf
  exact E _ _ hP hS
set_option maxHeartbeats 4000000 in
set_option maxRecDepth 100000 in
theorem c_Hand_hailed (l : Launch) (D : va_G) (cI cZ : ClassId) (a_p0 a_shown a_p1 a_p1_kinds a_p1_wanted z_p1_layers z_p1_patiences : Nat) (v_shown : Nat → Int32) (v_p1_count : Int32) (v_p1_kinds : Nat → Int32) (v_p1_wanted : Nat → Int32) (res : Int32) (hf : f_Hand_hailed v_shown v_p1_count v_p1_kinds v_p1_wanted = some res) : CtI l y_Hand_hailed b_Hand_hailed 4 (some .int) 2 D cI cZ [.ref a_p0, .ref a_p1] (cs_Hand_hailed cI cZ a_p0 a_shown a_p1 a_p1_kinds a_p1_wanted z_p1_layers z_p1_patiences v_shown v_p1_count v_p1_kinds v_p1_wanted) res (cs_Hand_hailed cI cZ a_p0 a_shown a_p1 a_p1_kinds a_p1_wanted z_p1_layers z_p1_patiences v_shown v_p1_count v_p1_kinds v_p1_wanted) := by
  refine CtI_mk (by decide) (Nat.le_of_ble_eq_true rfl) ?_
  intro p e s m args below meth c A Q hC hA hP hD RET ls hl
  have hC : Cx p s m args meth c b_Hand_hailed 4 R_Hand D cI cZ := hC
  have hl : lv_has ls 4 [(0, .ref a_p0), (1, .ref a_p1)] := hl
  obtain ⟨hx, hb, hml, hown, hts, hlk, hKK⟩ := id hC
  have hS : va_S A s.heap s.heap [] := va_S.rf
  have B_27 : ∀ (back_4 : Int32 → Int32 → Option Int32) (K_4 : ∀ (x2 : Int32) (x3 : Int32) (H : Heap) (locs : List Loc) (ls : Array Slot), va_P D classes (cs_Hand_hailed cI cZ a_p0 a_shown a_p1 a_p1_kinds a_p1_wanted z_p1_layers z_p1_patiences v_shown v_p1_count v_p1_kinds v_p1_wanted) H → va_D A (cs_Hand_hailed cI cZ a_p0 a_shown a_p1 a_p1_kinds a_p1_wanted z_p1_layers z_p1_patiences v_shown v_p1_count v_p1_kinds v_p1_wanted) → va_S A s.heap H locs → lv_has ls 4 [(0, .ref a_p0), (1, .ref a_p1), (2, .int x2), (3, .int x3)] → back_4 x2 x3 = some res → W p l e (rm_ 2 (40 * 2)) s m args below meth c H locs 0 0 Q (F0 m 4 ls [])) (x2 : Int32) (x3 : Int32) (H : Heap) (locs : List Loc) (ls : Array Slot), va_P D classes (cs_Hand_hailed cI cZ a_p0 a_shown a_p1 a_p1_kinds a_p1_wanted z_p1_layers z_p1_patiences v_shown v_p1_count v_p1_kinds v_p1_wanted) H → va_D A (cs_Hand_hailed cI cZ a_p0 a_shown a_p1 a_p1_kinds a_p1_wanted z_p1_layers z_p1_patiences v_shown v_p1_count v_p1_kinds v_p1_wanted) → va_S A s.heap H locs → lv_has ls 4 [(0, .ref a_p0), (1, .ref a_p1), (2, .int x2), (3, .int x3)] → f_Hand_hailed_27 back_4 v_shown v_p1_count v_p1_kinds v_p1_wanted x2 x3 = some res → W p l e (rm_ 2 (40 * 2)) s m args below meth c H locs 0 0 Q (F0 m 27 ls []) := by
    intro back_4 K_4 x2 x3 H locs ls hP hD hS hl hf
    unfold f_Hand_hailed_27 at hf
    refine lv_iinc (v := x3 + 1) (lv' := [(3, .int (x3 + 1)), (0, .ref a_p0), (1, .ref a_p1), (2, .int x2)]) hx hb d_Hand_hailed_27 hl (k := 3) rfl (rfl) (by decide) rfl (fun ls hl => ?_)
    refine lv_goto (tgt := 4) hx hb d_Hand_hailed_30 (by decide) ?_
    exact K_4 x2 (x3 + 1) _ _ _ hP hD hS (lv_sub hl [1, 2, 3, 0] rfl) hf
  have B_4 : ∀  (n : Nat) (x2 : Int32) (x3 : Int32) (H : Heap) (locs : List Loc) (ls : Array Slot), va_P D classes (cs_Hand_hailed cI cZ a_p0 a_shown a_p1 a_p1_kinds a_p1_wanted z_p1_layers z_p1_patiences v_shown v_p1_count v_p1_kinds v_p1_wanted) H → va_D A (cs_Hand_hailed cI cZ a_p0 a_shown a_p1 a_p1_kinds a_p1_wanted z_p1_layers z_p1_patiences v_shown v_p1_count v_p1_kinds v_p1_wanted) → va_S A s.heap H locs → lv_has ls 4 [(0, .ref a_p0), (1, .ref a_p1), (2, .int x2), (3, .int x3)] → f_Hand_hailed_4  v_shown v_p1_count v_p1_kinds v_p1_wanted n x2 x3 = some res → W p l e (rm_ 2 (40 * 2)) s m args below meth c H locs 0 0 Q (F0 m 4 ls []) := by
    intro  n
    induction n with
    | zero => intro x2 x3 H locs ls hP hD hS hl hf; exact nomatch hf
    | succ n ih =>
      intro x2 x3 H locs ls hP hD hS hl hf
      have hf : f_Hand_hailed_4_b  (f_Hand_hailed_4  v_shown v_p1_count v_p1_kinds v_p1_wanted n) v_shown v_p1_count v_p1_kinds v_p1_wanted x2 x3 = some res := hf
      generalize f_Hand_hailed_4  v_shown v_p1_count v_p1_kinds v_p1_wanted n = back_4 at ih hf
      have K_4 := ih
      unfold f_Hand_hailed_4_b at hf
      refine lv_iload_n hx hb d_Hand_hailed_4 rfl (lv_at hl 3 rfl) ?_
      refine lv_aload_n hx hb d_Hand_hailed_5 rfl (lv_at hl 1 rfl) ?_
      refine gf_Hand_31 hC hP 2 rfl rfl d_Hand_hailed_6 ?_
      refine lv_icmp_ge (tgt := 33) hx hb d_Hand_hailed_9 (by decide) (fun c1 => ?_) (fun c1 => ?_)
      · have hf := o_pos c1 hf
        refine lv_iload_n hx hb d_Hand_hailed_33 rfl (lv_at hl 2 rfl) ?_
        have hr := Option.some.inj hf
        exact RET _ _ _ _ _ _ rfl (congrArg (fun r : Int32 => r) hr) rfl hP hD hS d_Hand_hailed_34
      · have hf := o_neg c1 hf
        refine lv_aload_n hx hb d_Hand_hailed_12 rfl (lv_at hl 0 rfl) ?_
        refine lv_aload_n hx hb d_Hand_hailed_13 rfl (lv_at hl 1 rfl) ?_
        refine lv_iload_n hx hb d_Hand_hailed_14 rfl (lv_at hl 3 rfl) ?_
        obtain ⟨r2, h3, hf⟩ := o_bind hf
        refine cVi (rest := []) (wr := []) (wn := (cs_Hand_hailed cI cZ a_p0 a_shown a_p1 a_p1_kinds a_p1_wanted z_p1_layers z_p1_patiences v_shown v_p1_count v_p1_kinds v_p1_wanted)) (c_Hand_hails l D cI cZ a_p0 a_shown a_p1 a_p1_kinds a_p1_wanted z_p1_layers z_p1_patiences x3 v_shown v_p1_count v_p1_kinds v_p1_wanted r2 h3) hC hA hP hD hS hl.1 cw_Hand_35 0 rfl rfl rfl ⟨Nat.le_of_ble_eq_true rfl, Nat.le_of_ble_eq_true rfl⟩ rfl rfl (Nat.le_of_ble_eq_true rfl) d_Hand_hailed_15 ⟨Nat.zero_le _, Nat.zero_le _⟩ [0, 1, 2, 3, 4] [] [0, 1, 2, 3, 4] (by decide) (Cut_mk rfl rfl (by decide) (by decide) (by decide) rfl) (fun H locs hP hD hS => ?_)
        refine lv_if_eq (tgt := 27) hx hb d_Hand_hailed_18 (by decide) (fun c4 => ?_) (fun c4 => ?_)
        · have hf := o_pos c4 hf
          exact B_27 back_4 K_4 x2 x3 _ _ _ hP hD hS (lv_sub hl [0, 1, 2, 3] rfl) hf
        · have hf := o_neg c4 hf
          refine lv_iload_n hx hb d_Hand_hailed_21 rfl (lv_at hl 2 rfl) ?_
          refine lv_iconst (v := 1) hx hb d_Hand_hailed_22 (by decide) ?_
          refine lv_iload_n hx hb d_Hand_hailed_23 rfl (lv_at hl 3 rfl) ?_
          refine lv_ishl hx hb d_Hand_hailed_24 ?_
          refine lv_ior hx hb d_Hand_hailed_25 ?_
          refine lv_istore_n (lv' := [(2, .int (x2 ||| (slI 1 x3))), (0, .ref a_p0), (1, .ref a_p1), (3, .int x3)]) hx hb d_Hand_hailed_26 rfl hl (by decide) rfl (fun ls hl => ?_)
          exact B_27 back_4 K_4 (x2 ||| (slI 1 x3)) x3 _ _ _ hP hD hS (lv_sub hl [1, 2, 0, 3] rfl) hf
  unfold f_Hand_hailed at hf
  have E : ∀ (H : Heap) (locs : List Loc), va_P D classes (cs_Hand_hailed cI cZ a_p0 a_shown a_p1 a_p1_kinds a_p1_wanted z_p1_layers z_p1_patiences v_shown v_p1_count v_p1_kinds v_p1_wanted) H → va_S A s.heap H locs → W p l e (rm_ 2 (40 * 2)) s m args below meth c H locs 0 0 Q (F0 m 0 ls []) := by
    intro H locs hP hS
    refine lv_iconst (v := 0) hx hb d_Hand_hailed_0 (by decide) ?_
    refine lv_istore_n (lv' := [(2, .int 0), (0, .ref a_p0), (1, .ref a_p1)]) hx hb d_Hand_hailed_1 rfl hl (by decide) rfl (fun ls hl => ?_)
    refine lv_iconst (v := 0) hx hb d_Hand_hailed_2 (by decide) ?_
    refine lv_istore_n (lv' := [(3, .int 0), (2, .int 0), (0, .ref a_p0), (1, .ref a_p1)]) hx hb d_Hand_hailed_3 rfl hl (by decide) rfl (fun ls hl => ?_)
    exact B_4 300 0 0 _ _ _ hP hD hS (lv_sub hl [2, 3, 1, 0] rfl) hf
  exact E _ _ hP hS
set_option maxHeartbeats 4000000 in
set_option maxRecDepth 100000 in
theorem c_Scene_waiting (l : Launch) (D : va_G) (cI cZ : ClassId) (a_p0 a_waited z_off : Nat) (v_nights : Int32) (v_waited : Nat → Int32) (res : Int32) (hf : f_Scene_waiting v_waited = some res) : CtI l y_Scene_waiting b_Scene_waiting 3 (some .int) 0 D cI cZ [.ref a_p0] (cs_Scene_waiting cI cZ a_p0 a_waited z_off v_nights v_waited) res (cs_Scene_waiting cI cZ a_p0 a_waited z_off v_nights v_waited) := by
  refine CtI_mk (by decide) (Nat.le_of_ble_eq_true rfl) ?_
  intro p e s m args below meth c A Q hC hA hP hD RET ls hl
  have hC : Cx p s m args meth c b_Scene_waiting 3 R_Scene D cI cZ := hC
  have hl : lv_has ls 3 [(0, .ref a_p0)] := hl
  obtain ⟨hx, hb, hml, hown, hts, hlk, hKK⟩ := id hC
  have hS : va_S A s.heap s.heap [] := va_S.rf
  have B_26 : ∀ (back_4 : Int32 → Int32 → Option Int32) (K_4 : ∀ (x1 : Int32) (x2 : Int32) (H : Heap) (locs : List Loc) (ls : Array Slot), va_P D classes (cs_Scene_waiting cI cZ a_p0 a_waited z_off v_nights v_waited) H → va_D A (cs_Scene_waiting cI cZ a_p0 a_waited z_off v_nights v_waited) → va_S A s.heap H locs → lv_has ls 3 [(0, .ref a_p0), (1, .int x1), (2, .int x2)] → back_4 x1 x2 = some res → W p l e (rm_ 0 (40 * 0)) s m args below meth c H locs 0 0 Q (F0 m 4 ls [])) (x1 : Int32) (x2 : Int32) (H : Heap) (locs : List Loc) (ls : Array Slot), va_P D classes (cs_Scene_waiting cI cZ a_p0 a_waited z_off v_nights v_waited) H → va_D A (cs_Scene_waiting cI cZ a_p0 a_waited z_off v_nights v_waited) → va_S A s.heap H locs → lv_has ls 3 [(0, .ref a_p0), (1, .int x1), (2, .int x2)] → f_Scene_waiting_26 back_4 v_waited x1 x2 = some res → W p l e (rm_ 0 (40 * 0)) s m args below meth c H locs 0 0 Q (F0 m 26 ls []) := by
    intro back_4 K_4 x1 x2 H locs ls hP hD hS hl hf
    unfold f_Scene_waiting_26 at hf
    refine lv_iinc (v := x2 + 1) (lv' := [(2, .int (x2 + 1)), (0, .ref a_p0), (1, .int x1)]) hx hb d_Scene_waiting_26 hl (k := 2) rfl (rfl) (by decide) rfl (fun ls hl => ?_)
    refine lv_goto (tgt := 4) hx hb d_Scene_waiting_29 (by decide) ?_
    exact K_4 x1 (x2 + 1) _ _ _ hP hD hS (lv_sub hl [1, 2, 0] rfl) hf
  have B_4 : ∀  (n : Nat) (x1 : Int32) (x2 : Int32) (H : Heap) (locs : List Loc) (ls : Array Slot), va_P D classes (cs_Scene_waiting cI cZ a_p0 a_waited z_off v_nights v_waited) H → va_D A (cs_Scene_waiting cI cZ a_p0 a_waited z_off v_nights v_waited) → va_S A s.heap H locs → lv_has ls 3 [(0, .ref a_p0), (1, .int x1), (2, .int x2)] → f_Scene_waiting_4  v_waited n x1 x2 = some res → W p l e (rm_ 0 (40 * 0)) s m args below meth c H locs 0 0 Q (F0 m 4 ls []) := by
    intro  n
    induction n with
    | zero => intro x1 x2 H locs ls hP hD hS hl hf; exact nomatch hf
    | succ n ih =>
      intro x1 x2 H locs ls hP hD hS hl hf
      have hf : f_Scene_waiting_4_b  (f_Scene_waiting_4  v_waited n) v_waited x1 x2 = some res := hf
      generalize f_Scene_waiting_4  v_waited n = back_4 at ih hf
      have K_4 := ih
      unfold f_Scene_waiting_4_b at hf
      refine lv_iload_n hx hb d_Scene_waiting_4 rfl (lv_at hl 2 rfl) ?_
      refine lv_iconst (v := 5) hx hb d_Scene_waiting_5 (by decide) ?_
      refine lv_icmp_ge (tgt := 32) hx hb d_Scene_waiting_6 (by decide) (fun c1 => ?_) (fun c1 => ?_)
      · have hf := o_pos c1 hf
        refine lv_iload_n hx hb d_Scene_waiting_32 rfl (lv_at hl 1 rfl) ?_
        have hr := Option.some.inj hf
        exact RET _ _ _ _ _ _ rfl (congrArg (fun r : Int32 => r) hr) rfl hP hD hS d_Scene_waiting_33
      · have hf := o_neg c1 hf
        refine lv_aload_n hx hb d_Scene_waiting_9 rfl (lv_at hl 0 rfl) ?_
        refine gf_Scene_15 hC hP 0 rfl rfl d_Scene_waiting_10 ?_
        refine lv_iload_n hx hb d_Scene_waiting_13 rfl (lv_at hl 2 rfl) ?_
        obtain ⟨v2, h3, hf⟩ := o_bind hf
        refine r_iald hC hP 1 rfl h3 d_Scene_waiting_14 ?_
        refine lv_bipush (v := (-9)) hx hb d_Scene_waiting_15 (by decide) ?_
        refine lv_icmp_eq (tgt := 26) hx hb d_Scene_waiting_17 (by decide) (fun c4 => ?_) (fun c4 => ?_)
        · have hf := o_pos c4 hf
          exact B_26 back_4 K_4 x1 x2 _ _ _ hP hD hS (lv_sub hl [0, 1, 2] rfl) hf
        · have hf := o_neg c4 hf
          refine lv_iload_n hx hb d_Scene_waiting_20 rfl (lv_at hl 1 rfl) ?_
          refine lv_iconst (v := 1) hx hb d_Scene_waiting_21 (by decide) ?_
          refine lv_iload_n hx hb d_Scene_waiting_22 rfl (lv_at hl 2 rfl) ?_
          refine lv_ishl hx hb d_Scene_waiting_23 ?_
          refine lv_ior hx hb d_Scene_waiting_24 ?_
          refine lv_istore_n (lv' := [(1, .int (x1 ||| (slI 1 x2))), (0, .ref a_p0), (2, .int x2)]) hx hb d_Scene_waiting_25 rfl hl (by decide) rfl (fun ls hl => ?_)
          exact B_26 back_4 K_4 (x1 ||| (slI 1 x2)) x2 _ _ _ hP hD hS (lv_sub hl [1, 0, 2] rfl) hf
  unfold f_Scene_waiting at hf
  have E : ∀ (H : Heap) (locs : List Loc), va_P D classes (cs_Scene_waiting cI cZ a_p0 a_waited z_off v_nights v_waited) H → va_S A s.heap H locs → W p l e (rm_ 0 (40 * 0)) s m args below meth c H locs 0 0 Q (F0 m 0 ls []) := by
    intro H locs hP hS
    refine lv_iconst (v := 0) hx hb d_Scene_waiting_0 (by decide) ?_
    refine lv_istore_n (lv' := [(1, .int 0), (0, .ref a_p0)]) hx hb d_Scene_waiting_1 rfl hl (by decide) rfl (fun ls hl => ?_)
    refine lv_iconst (v := 0) hx hb d_Scene_waiting_2 (by decide) ?_
    refine lv_istore_n (lv' := [(2, .int 0), (1, .int 0), (0, .ref a_p0)]) hx hb d_Scene_waiting_3 rfl hl (by decide) rfl (fun ls hl => ?_)
    exact B_4 300 0 0 _ _ _ hP hD hS (lv_sub hl [2, 1, 0] rfl) hf
  exact E _ _ hP hS
set_option maxHeartbeats 4000000 in
set_option maxRecDepth 100000 in
theorem c_Scene_waited (l : Launch) (D : va_G) (cI cZ : ClassId) (a_p0 a_waited z_off : Nat) (i1 : Int32) (v_nights : Int32) (v_waited : Nat → Int32) (res : Int32) (hf : f_Scene_waited i1 v_waited = some res) : CtI l y_Scene_waited b_Scene_waited 2 (some .int) 0 D cI cZ [.ref a_p0, .int i1] (cs_Scene_waited cI cZ a_p0 a_waited z_off v_nights v_waited) res (cs_Scene_waited cI cZ a_p0 a_waited z_off v_nights v_waited) := by
  refine CtI_mk (by decide) (Nat.le_of_ble_eq_true rfl) ?_
  intro p e s m args below meth c A Q hC hA hP hD RET ls hl
  have hC : Cx p s m args meth c b_Scene_waited 2 R_Scene D cI cZ := hC
  have hl : lv_has ls 2 [(0, .ref a_p0), (1, .int i1)] := hl
  obtain ⟨hx, hb, hml, hown, hts, hlk, hKK⟩ := id hC
  have hS : va_S A s.heap s.heap [] := va_S.rf
  have B_20 : ∀  (w0 : Int32) (H : Heap) (locs : List Loc) (ls : Array Slot), va_P D classes (cs_Scene_waited cI cZ a_p0 a_waited z_off v_nights v_waited) H → va_D A (cs_Scene_waited cI cZ a_p0 a_waited z_off v_nights v_waited) → va_S A s.heap H locs → lv_has ls 2 [] → f_Scene_waited_20  v_waited w0 = some res → W p l e (rm_ 0 (40 * 0)) s m args below meth c H locs 0 0 Q (F0 m 20 ls [.int w0]) := by
    intro  w0 H locs ls hP hD hS hl hf
    unfold f_Scene_waited_20 at hf
    have hr := Option.some.inj hf
    exact RET _ _ _ _ _ _ rfl (congrArg (fun r : Int32 => r) hr) rfl hP hD hS d_Scene_waited_20
  have B_18 : ∀   (H : Heap) (locs : List Loc) (ls : Array Slot), va_P D classes (cs_Scene_waited cI cZ a_p0 a_waited z_off v_nights v_waited) H → va_D A (cs_Scene_waited cI cZ a_p0 a_waited z_off v_nights v_waited) → va_S A s.heap H locs → lv_has ls 2 [] → f_Scene_waited_18  v_waited  = some res → W p l e (rm_ 0 (40 * 0)) s m args below meth c H locs 0 0 Q (F0 m 18 ls []) := by
    intro   H locs ls hP hD hS hl hf
    unfold f_Scene_waited_18 at hf
    refine lv_bipush (v := (-9)) hx hb d_Scene_waited_18 (by decide) ?_
    exact B_20 ((-9)) _ _ _ hP hD hS (lv_sub hl [] rfl) hf
  unfold f_Scene_waited at hf
  have E : ∀ (H : Heap) (locs : List Loc), va_P D classes (cs_Scene_waited cI cZ a_p0 a_waited z_off v_nights v_waited) H → va_S A s.heap H locs → W p l e (rm_ 0 (40 * 0)) s m args below meth c H locs 0 0 Q (F0 m 0 ls []) := by
    intro H locs hP hS
    refine lv_iload_n hx hb d_Scene_waited_0 rfl (lv_at hl 1 rfl) ?_
    refine lv_if_lt (tgt := 18) hx hb d_Scene_waited_1 (by decide) (fun c1 => ?_) (fun c1 => ?_)
    · have hf := o_pos c1 hf
      exact B_18 _ _ _ hP hD hS (lv_sub hl [] rfl) hf
    · have hf := o_neg c1 hf
      refine lv_iload_n hx hb d_Scene_waited_4 rfl (lv_at hl 1 rfl) ?_
      refine lv_iconst (v := 5) hx hb d_Scene_waited_5 (by decide) ?_
      refine lv_icmp_ge (tgt := 18) hx hb d_Scene_waited_6 (by decide) (fun c2 => ?_) (fun c2 => ?_)
      · have hf := o_pos c2 hf
        exact B_18 _ _ _ hP hD hS (lv_sub hl [] rfl) hf
      · have hf := o_neg c2 hf
        refine lv_aload_n hx hb d_Scene_waited_9 rfl (lv_at hl 0 rfl) ?_
        refine gf_Scene_15 hC hP 0 rfl rfl d_Scene_waited_10 ?_
        refine lv_iload_n hx hb d_Scene_waited_13 rfl (lv_at hl 1 rfl) ?_
        obtain ⟨v3, h4, hf⟩ := o_bind hf
        refine r_iald hC hP 1 rfl h4 d_Scene_waited_14 ?_
        refine lv_goto (tgt := 20) hx hb d_Scene_waited_15 (by decide) ?_
        exact B_20 v3 _ _ _ hP hD hS (lv_sub hl [] rfl) hf
  exact E _ _ hP hS
set_option maxHeartbeats 4000000 in
set_option maxRecDepth 100000 in
theorem c_Scene_firstOf (l : Launch) (D : va_G) (cI cZ : ClassId) (a_p0 a_waited z_off : Nat) (i1 : Int32) (v_nights : Int32) (v_waited : Nat → Int32) (res : Int32) (hf : f_Scene_firstOf i1 v_waited = some res) : CtI l y_Scene_firstOf b_Scene_firstOf 5 (some .int) 1 D cI cZ [.ref a_p0, .int i1] (cs_Scene_firstOf cI cZ a_p0 a_waited z_off v_nights v_waited) res (cs_Scene_firstOf cI cZ a_p0 a_waited z_off v_nights v_waited) := by
  refine CtI_mk (by decide) (Nat.le_of_ble_eq_true rfl) ?_
  intro p e s m args below meth c A Q hC hA hP hD RET ls hl
  have hC : Cx p s m args meth c b_Scene_firstOf 5 R_Scene D cI cZ := hC
  have hl : lv_has ls 5 [(0, .ref a_p0), (1, .int i1)] := hl
  obtain ⟨hx, hb, hml, hown, hts, hlk, hKK⟩ := id hC
  have hS : va_S A s.heap s.heap [] := va_S.rf
  have B_53 : ∀ (back_5 : Int32 → Int32 → Int32 → Option Int32) (K_5 : ∀ (x1 : Int32) (x2 : Int32) (x3 : Int32) (H : Heap) (locs : List Loc) (ls : Array Slot), va_P D classes (cs_Scene_firstOf cI cZ a_p0 a_waited z_off v_nights v_waited) H → va_D A (cs_Scene_firstOf cI cZ a_p0 a_waited z_off v_nights v_waited) → va_S A s.heap H locs → lv_has ls 5 [(0, .ref a_p0), (1, .int x1), (2, .int x2), (3, .int x3)] → back_5 x1 x2 x3 = some res → W p l e (rm_ 1 (40 * 1)) s m args below meth c H locs 0 0 Q (F0 m 5 ls [])) (x1 : Int32) (x2 : Int32) (x3 : Int32) (H : Heap) (locs : List Loc) (ls : Array Slot), va_P D classes (cs_Scene_firstOf cI cZ a_p0 a_waited z_off v_nights v_waited) H → va_D A (cs_Scene_firstOf cI cZ a_p0 a_waited z_off v_nights v_waited) → va_S A s.heap H locs → lv_has ls 5 [(0, .ref a_p0), (1, .int x1), (2, .int x2), (3, .int x3)] → f_Scene_firstOf_53 back_5 v_waited x1 x2 x3 = some res → W p l e (rm_ 1 (40 * 1)) s m args below meth c H locs 0 0 Q (F0 m 53 ls []) := by
    intro back_5 K_5 x1 x2 x3 H locs ls hP hD hS hl hf
    unfold f_Scene_firstOf_53 at hf
    refine lv_iinc (v := x3 + 1) (lv' := [(3, .int (x3 + 1)), (0, .ref a_p0), (1, .int x1), (2, .int x2)]) hx hb d_Scene_firstOf_53 hl (k := 3) rfl (rfl) (by decide) rfl (fun ls hl => ?_)
    refine lv_goto (tgt := 5) hx hb d_Scene_firstOf_56 (by decide) ?_
    exact K_5 x1 x2 (x3 + 1) _ _ _ hP hD hS (lv_sub hl [1, 2, 3, 0] rfl) hf
  have B_51 : ∀ (back_5 : Int32 → Int32 → Int32 → Option Int32) (K_5 : ∀ (x1 : Int32) (x2 : Int32) (x3 : Int32) (H : Heap) (locs : List Loc) (ls : Array Slot), va_P D classes (cs_Scene_firstOf cI cZ a_p0 a_waited z_off v_nights v_waited) H → va_D A (cs_Scene_firstOf cI cZ a_p0 a_waited z_off v_nights v_waited) → va_S A s.heap H locs → lv_has ls 5 [(0, .ref a_p0), (1, .int x1), (2, .int x2), (3, .int x3)] → back_5 x1 x2 x3 = some res → W p l e (rm_ 1 (40 * 1)) s m args below meth c H locs 0 0 Q (F0 m 5 ls [])) (x1 : Int32) (x3 : Int32) (H : Heap) (locs : List Loc) (ls : Array Slot), va_P D classes (cs_Scene_firstOf cI cZ a_p0 a_waited z_off v_nights v_waited) H → va_D A (cs_Scene_firstOf cI cZ a_p0 a_waited z_off v_nights v_waited) → va_S A s.heap H locs → lv_has ls 5 [(0, .ref a_p0), (1, .int x1), (3, .int x3)] → f_Scene_firstOf_51 back_5 v_waited x1 x3 = some res → W p l e (rm_ 1 (40 * 1)) s m args below meth c H locs 0 0 Q (F0 m 51 ls []) := by
    intro back_5 K_5 x1 x3 H locs ls hP hD hS hl hf
    unfold f_Scene_firstOf_51 at hf
    refine lv_iload_n hx hb d_Scene_firstOf_51 rfl (lv_at hl 2 rfl) ?_
    refine lv_istore_n (lv' := [(2, .int x3), (0, .ref a_p0), (1, .int x1), (3, .int x3)]) hx hb d_Scene_firstOf_52 rfl hl (by decide) rfl (fun ls hl => ?_)
    exact B_53 back_5 K_5 x1 x3 x3 _ _ _ hP hD hS (lv_sub hl [1, 2, 0, 3] rfl) hf
  have B_24 : ∀ (back_5 : Int32 → Int32 → Int32 → Option Int32) (K_5 : ∀ (x1 : Int32) (x2 : Int32) (x3 : Int32) (H : Heap) (locs : List Loc) (ls : Array Slot), va_P D classes (cs_Scene_firstOf cI cZ a_p0 a_waited z_off v_nights v_waited) H → va_D A (cs_Scene_firstOf cI cZ a_p0 a_waited z_off v_nights v_waited) → va_S A s.heap H locs → lv_has ls 5 [(0, .ref a_p0), (1, .int x1), (2, .int x2), (3, .int x3)] → back_5 x1 x2 x3 = some res → W p l e (rm_ 1 (40 * 1)) s m args below meth c H locs 0 0 Q (F0 m 5 ls [])) (x1 : Int32) (x2 : Int32) (x3 : Int32) (w0 : Int32) (H : Heap) (locs : List Loc) (ls : Array Slot), va_P D classes (cs_Scene_firstOf cI cZ a_p0 a_waited z_off v_nights v_waited) H → va_D A (cs_Scene_firstOf cI cZ a_p0 a_waited z_off v_nights v_waited) → va_S A s.heap H locs → lv_has ls 5 [(0, .ref a_p0), (1, .int x1), (2, .int x2), (3, .int x3)] → f_Scene_firstOf_24 back_5 v_waited x1 x2 x3 w0 = some res → W p l e (rm_ 1 (40 * 1)) s m args below meth c H locs 0 0 Q (F0 m 24 ls [.int w0]) := by
    intro back_5 K_5 x1 x2 x3 w0 H locs ls hP hD hS hl hf
    unfold f_Scene_firstOf_24 at hf
    refine lv_istore (lv' := [(4, .int w0), (0, .ref a_p0), (1, .int x1), (2, .int x2), (3, .int x3)]) hx hb d_Scene_firstOf_24 hl (by decide) rfl (fun ls hl => ?_)
    refine lv_iload hx hb d_Scene_firstOf_26 (lv_at hl 0 rfl) ?_
    refine lv_if_eq (tgt := 53) hx hb d_Scene_firstOf_28 (by decide) (fun c1 => ?_) (fun c1 => ?_)
    · have hf := o_pos c1 hf
      exact B_53 back_5 K_5 x1 x2 x3 _ _ _ hP hD hS (lv_sub hl [1, 2, 3, 4] rfl) hf
    · have hf := o_neg c1 hf
      refine lv_iload_n hx hb d_Scene_firstOf_31 rfl (lv_at hl 3 rfl) ?_
      refine lv_bipush (v := (-9)) hx hb d_Scene_firstOf_32 (by decide) ?_
      refine lv_icmp_eq (tgt := 51) hx hb d_Scene_firstOf_34 (by decide) (fun c2 => ?_) (fun c2 => ?_)
      · have hf := o_pos c2 hf
        exact B_51 back_5 K_5 x1 x3 _ _ _ hP hD hS (lv_sub hl [1, 2, 4] rfl) hf
      · have hf := o_neg c2 hf
        refine lv_aload_n hx hb d_Scene_firstOf_37 rfl (lv_at hl 1 rfl) ?_
        refine gf_Scene_15 hC hP 0 rfl rfl d_Scene_firstOf_38 ?_
        refine lv_iload_n hx hb d_Scene_firstOf_41 rfl (lv_at hl 4 rfl) ?_
        obtain ⟨v3, h4, hf⟩ := o_bind hf
        refine r_iald hC hP 1 rfl h4 d_Scene_firstOf_42 ?_
        refine lv_aload_n hx hb d_Scene_firstOf_43 rfl (lv_at hl 1 rfl) ?_
        refine lv_iload_n hx hb d_Scene_firstOf_44 rfl (lv_at hl 3 rfl) ?_
        obtain ⟨r5, h6, hf⟩ := o_bind hf
        refine cVi (rest := [.int v3]) (wr := []) (wn := (cs_Scene_firstOf cI cZ a_p0 a_waited z_off v_nights v_waited)) (c_Scene_waited l D cI cZ a_p0 a_waited z_off x2 v_nights v_waited r5 h6) hC hA hP hD hS hl.1 cw_Scene_52 0 rfl rfl rfl ⟨Nat.le_of_ble_eq_true rfl, Nat.le_of_ble_eq_true rfl⟩ rfl rfl (Nat.le_of_ble_eq_true rfl) d_Scene_firstOf_45 ⟨Nat.zero_le _, Nat.zero_le _⟩ [0, 1] [] [0, 1] (by decide) (Cut_mk rfl rfl (by decide) (by decide) (by decide) rfl) (fun H locs hP hD hS => ?_)
        refine lv_icmp_le (tgt := 53) hx hb d_Scene_firstOf_48 (by decide) (fun c7 => ?_) (fun c7 => ?_)
        · have hf := o_pos c7 hf
          exact B_53 back_5 K_5 x1 x2 x3 _ _ _ hP hD hS (lv_sub hl [1, 2, 3, 4] rfl) hf
        · have hf := o_neg c7 hf
          exact B_51 back_5 K_5 x1 x3 _ _ _ hP hD hS (lv_sub hl [1, 2, 4] rfl) hf
  have B_5 : ∀  (n : Nat) (x1 : Int32) (x2 : Int32) (x3 : Int32) (H : Heap) (locs : List Loc) (ls : Array Slot), va_P D classes (cs_Scene_firstOf cI cZ a_p0 a_waited z_off v_nights v_waited) H → va_D A (cs_Scene_firstOf cI cZ a_p0 a_waited z_off v_nights v_waited) → va_S A s.heap H locs → lv_has ls 5 [(0, .ref a_p0), (1, .int x1), (2, .int x2), (3, .int x3)] → f_Scene_firstOf_5  v_waited n x1 x2 x3 = some res → W p l e (rm_ 1 (40 * 1)) s m args below meth c H locs 0 0 Q (F0 m 5 ls []) := by
    intro  n
    induction n with
    | zero => intro x1 x2 x3 H locs ls hP hD hS hl hf; exact nomatch hf
    | succ n ih =>
      intro x1 x2 x3 H locs ls hP hD hS hl hf
      have hf : f_Scene_firstOf_5_b  (f_Scene_firstOf_5  v_waited n) v_waited x1 x2 x3 = some res := hf
      generalize f_Scene_firstOf_5  v_waited n = back_5 at ih hf
      have K_5 := ih
      unfold f_Scene_firstOf_5_b at hf
      refine lv_iload_n hx hb d_Scene_firstOf_5 rfl (lv_at hl 3 rfl) ?_
      refine lv_iconst (v := 5) hx hb d_Scene_firstOf_6 (by decide) ?_
      refine lv_icmp_ge (tgt := 59) hx hb d_Scene_firstOf_7 (by decide) (fun c1 => ?_) (fun c1 => ?_)
      · have hf := o_pos c1 hf
        refine lv_iload_n hx hb d_Scene_firstOf_59 rfl (lv_at hl 2 rfl) ?_
        have hr := Option.some.inj hf
        exact RET _ _ _ _ _ _ rfl (congrArg (fun r : Int32 => r) hr) rfl hP hD hS d_Scene_firstOf_60
      · have hf := o_neg c1 hf
        refine lv_iload_n hx hb d_Scene_firstOf_10 rfl (lv_at hl 1 rfl) ?_
        refine lv_iload_n hx hb d_Scene_firstOf_11 rfl (lv_at hl 3 rfl) ?_
        refine lv_ishr hx hb d_Scene_firstOf_12 ?_
        refine lv_iconst (v := 1) hx hb d_Scene_firstOf_13 (by decide) ?_
        refine lv_iand hx hb d_Scene_firstOf_14 ?_
        refine lv_iconst (v := 1) hx hb d_Scene_firstOf_15 (by decide) ?_
        refine lv_icmp_ne (tgt := 23) hx hb d_Scene_firstOf_16 (by decide) (fun c2 => ?_) (fun c2 => ?_)
        · have hf := o_neg c2 hf
          refine lv_iconst (v := 0) hx hb d_Scene_firstOf_23 (by decide) ?_
          exact B_24 back_5 K_5 x1 x2 x3 0 _ _ _ hP hD hS (lv_sub hl [0, 1, 2, 3] rfl) hf
        · have hf := o_pos c2 hf
          refine lv_iconst (v := 1) hx hb d_Scene_firstOf_19 (by decide) ?_
          refine lv_goto (tgt := 24) hx hb d_Scene_firstOf_20 (by decide) ?_
          exact B_24 back_5 K_5 x1 x2 x3 1 _ _ _ hP hD hS (lv_sub hl [0, 1, 2, 3] rfl) hf
  unfold f_Scene_firstOf at hf
  have E : ∀ (H : Heap) (locs : List Loc), va_P D classes (cs_Scene_firstOf cI cZ a_p0 a_waited z_off v_nights v_waited) H → va_S A s.heap H locs → W p l e (rm_ 1 (40 * 1)) s m args below meth c H locs 0 0 Q (F0 m 0 ls []) := by
    intro H locs hP hS
    refine lv_bipush (v := (-9)) hx hb d_Scene_firstOf_0 (by decide) ?_
    refine lv_istore_n (lv' := [(2, .int ((-9))), (0, .ref a_p0), (1, .int i1)]) hx hb d_Scene_firstOf_2 rfl hl (by decide) rfl (fun ls hl => ?_)
    refine lv_iconst (v := 0) hx hb d_Scene_firstOf_3 (by decide) ?_
    refine lv_istore_n (lv' := [(3, .int 0), (2, .int ((-9))), (0, .ref a_p0), (1, .int i1)]) hx hb d_Scene_firstOf_4 rfl hl (by decide) rfl (fun ls hl => ?_)
    exact B_5 300 i1 ((-9)) 0 _ _ _ hP hD hS (lv_sub hl [2, 3, 1, 0] rfl) hf
  exact E _ _ hP hS
set_option maxHeartbeats 4000000 in
set_option maxRecDepth 100000 in
theorem c_Scene_rank (l : Launch) (D : va_G) (cI cZ : ClassId) (a_p0 a_waited z_off : Nat) (v_nights : Int32) (v_waited : Nat → Int32) (res : Int32) (hf : f_Scene_rank v_waited = some res) : CtI l y_Scene_rank b_Scene_rank 5 (some .int) 2 D cI cZ [.ref a_p0] (cs_Scene_rank cI cZ a_p0 a_waited z_off v_nights v_waited) res (cs_Scene_rank cI cZ a_p0 a_waited z_off v_nights v_waited) := by
  refine CtI_mk (by decide) (Nat.le_of_ble_eq_true rfl) ?_
  intro p e s m args below meth c A Q hC hA hP hD RET ls hl
  have hC : Cx p s m args meth c b_Scene_rank 5 R_Scene D cI cZ := hC
  have hl : lv_has ls 5 [(0, .ref a_p0)] := hl
  obtain ⟨hx, hb, hml, hown, hts, hlk, hKK⟩ := id hC
  have hS : va_S A s.heap s.heap [] := va_S.rf
  have B_50 : ∀  (x1 : Int32) (H : Heap) (locs : List Loc) (ls : Array Slot), va_P D classes (cs_Scene_rank cI cZ a_p0 a_waited z_off v_nights v_waited) H → va_D A (cs_Scene_rank cI cZ a_p0 a_waited z_off v_nights v_waited) → va_S A s.heap H locs → lv_has ls 5 [(1, .int x1)] → f_Scene_rank_50  v_waited x1 = some res → W p l e (rm_ 2 (40 * 2)) s m args below meth c H locs 0 0 Q (F0 m 50 ls []) := by
    intro  x1 H locs ls hP hD hS hl hf
    unfold f_Scene_rank_50 at hf
    refine lv_iload_n hx hb d_Scene_rank_50 rfl (lv_at hl 0 rfl) ?_
    have hr := Option.some.inj hf
    exact RET _ _ _ _ _ _ rfl (congrArg (fun r : Int32 => r) hr) rfl hP hD hS d_Scene_rank_51
  have B_9 : ∀  (n : Nat) (x1 : Int32) (x2 : Int32) (x3 : Int32) (H : Heap) (locs : List Loc) (ls : Array Slot), va_P D classes (cs_Scene_rank cI cZ a_p0 a_waited z_off v_nights v_waited) H → va_D A (cs_Scene_rank cI cZ a_p0 a_waited z_off v_nights v_waited) → va_S A s.heap H locs → lv_has ls 5 [(0, .ref a_p0), (1, .int x1), (2, .int x2), (3, .int x3)] → f_Scene_rank_9  v_waited n x1 x2 x3 = some res → W p l e (rm_ 2 (40 * 2)) s m args below meth c H locs 0 0 Q (F0 m 9 ls []) := by
    intro  n
    induction n with
    | zero => intro x1 x2 x3 H locs ls hP hD hS hl hf; exact nomatch hf
    | succ n ih =>
      intro x1 x2 x3 H locs ls hP hD hS hl hf
      have hf : f_Scene_rank_9_b  (f_Scene_rank_9  v_waited n) v_waited x1 x2 x3 = some res := hf
      generalize f_Scene_rank_9  v_waited n = back_9 at ih hf
      have K_9 := ih
      unfold f_Scene_rank_9_b at hf
      refine lv_iload_n hx hb d_Scene_rank_9 rfl (lv_at hl 3 rfl) ?_
      refine lv_iconst (v := 5) hx hb d_Scene_rank_10 (by decide) ?_
      refine lv_icmp_ge (tgt := 50) hx hb d_Scene_rank_11 (by decide) (fun c1 => ?_) (fun c1 => ?_)
      · have hf := o_pos c1 hf
        exact B_50 x1 _ _ _ hP hD hS (lv_sub hl [1] rfl) hf
      · have hf := o_neg c1 hf
        refine lv_iload_n hx hb d_Scene_rank_14 rfl (lv_at hl 2 rfl) ?_
        refine lv_if_eq (tgt := 50) hx hb d_Scene_rank_15 (by decide) (fun c2 => ?_) (fun c2 => ?_)
        · have hf := o_pos c2 hf
          exact B_50 x1 _ _ _ hP hD hS (lv_sub hl [1] rfl) hf
        · have hf := o_neg c2 hf
          refine lv_aload_n hx hb d_Scene_rank_18 rfl (lv_at hl 0 rfl) ?_
          refine lv_iload_n hx hb d_Scene_rank_19 rfl (lv_at hl 2 rfl) ?_
          obtain ⟨r3, h4, hf⟩ := o_bind hf
          refine cVi (rest := []) (wr := []) (wn := (cs_Scene_rank cI cZ a_p0 a_waited z_off v_nights v_waited)) (c_Scene_firstOf l D cI cZ a_p0 a_waited z_off x2 v_nights v_waited r3 h4) hC hA hP hD hS hl.1 cw_Scene_48 0 rfl rfl rfl ⟨Nat.le_of_ble_eq_true rfl, Nat.le_of_ble_eq_true rfl⟩ rfl rfl (Nat.le_of_ble_eq_true rfl) d_Scene_rank_20 ⟨Nat.zero_le _, Nat.zero_le _⟩ [0, 1] [] [0, 1] (by decide) (Cut_mk rfl rfl (by decide) (by decide) (by decide) rfl) (fun H locs hP hD hS => ?_)
          refine lv_istore (lv' := [(4, .int r3), (0, .ref a_p0), (1, .int x1), (2, .int x2), (3, .int x3)]) hx hb d_Scene_rank_23 hl (by decide) rfl (fun ls hl => ?_)
          refine lv_iload_n hx hb d_Scene_rank_25 rfl (lv_at hl 2 rfl) ?_
          refine lv_bipush (v := 10) hx hb d_Scene_rank_26 (by decide) ?_
          refine lv_imul hx hb d_Scene_rank_28 ?_
          refine lv_iload hx hb d_Scene_rank_29 (lv_at hl 0 rfl) ?_
          refine lv_iadd hx hb d_Scene_rank_31 ?_
          refine lv_iconst (v := 1) hx hb d_Scene_rank_32 (by decide) ?_
          refine lv_iadd hx hb d_Scene_rank_33 ?_
          refine lv_istore_n (lv' := [(1, .int (((x1 * 10) + r3) + 1)), (4, .int r3), (0, .ref a_p0), (2, .int x2), (3, .int x3)]) hx hb d_Scene_rank_34 rfl hl (by decide) rfl (fun ls hl => ?_)
          refine lv_iload_n hx hb d_Scene_rank_35 rfl (lv_at hl 3 rfl) ?_
          refine lv_iconst (v := 1) hx hb d_Scene_rank_36 (by decide) ?_
          refine lv_iload hx hb d_Scene_rank_37 (lv_at hl 1 rfl) ?_
          refine lv_ishl hx hb d_Scene_rank_39 ?_
          refine lv_iconst (v := (-1)) hx hb d_Scene_rank_40 (by decide) ?_
          refine lv_ixor hx hb d_Scene_rank_41 ?_
          refine lv_iand hx hb d_Scene_rank_42 ?_
          refine lv_istore_n (lv' := [(2, .int (x2 &&& ((slI 1 r3) ^^^ ((-1))))), (1, .int (((x1 * 10) + r3) + 1)), (4, .int r3), (0, .ref a_p0), (3, .int x3)]) hx hb d_Scene_rank_43 rfl hl (by decide) rfl (fun ls hl => ?_)
          refine lv_iinc (v := x3 + 1) (lv' := [(3, .int (x3 + 1)), (2, .int (x2 &&& ((slI 1 r3) ^^^ ((-1))))), (1, .int (((x1 * 10) + r3) + 1)), (4, .int r3), (0, .ref a_p0)]) hx hb d_Scene_rank_44 hl (k := 4) rfl (rfl) (by decide) rfl (fun ls hl => ?_)
          refine lv_goto (tgt := 9) hx hb d_Scene_rank_47 (by decide) ?_
          exact K_9 (((x1 * 10) + r3) + 1) (x2 &&& ((slI 1 r3) ^^^ ((-1)))) (x3 + 1) _ _ _ hP hD hS (lv_sub hl [4, 2, 1, 0] rfl) hf
  unfold f_Scene_rank at hf
  have E : ∀ (H : Heap) (locs : List Loc), va_P D classes (cs_Scene_rank cI cZ a_p0 a_waited z_off v_nights v_waited) H → va_S A s.heap H locs → W p l e (rm_ 2 (40 * 2)) s m args below meth c H locs 0 0 Q (F0 m 0 ls []) := by
    intro H locs hP hS
    refine lv_iconst (v := 0) hx hb d_Scene_rank_0 (by decide) ?_
    refine lv_istore_n (lv' := [(1, .int 0), (0, .ref a_p0)]) hx hb d_Scene_rank_1 rfl hl (by decide) rfl (fun ls hl => ?_)
    refine lv_aload_n hx hb d_Scene_rank_2 rfl (lv_at hl 1 rfl) ?_
    obtain ⟨r1, h2, hf⟩ := o_bind hf
    refine cVi (rest := []) (wr := []) (wn := (cs_Scene_rank cI cZ a_p0 a_waited z_off v_nights v_waited)) (c_Scene_waiting l D cI cZ a_p0 a_waited z_off v_nights v_waited r1 h2) hC hA hP hD hS hl.1 cw_Scene_44 0 rfl rfl rfl ⟨Nat.le_of_ble_eq_true rfl, Nat.le_of_ble_eq_true rfl⟩ rfl rfl (Nat.le_of_ble_eq_true rfl) d_Scene_rank_3 ⟨Nat.zero_le _, Nat.zero_le _⟩ [0, 1] [] [0, 1] (by decide) (Cut_mk rfl rfl (by decide) (by decide) (by decide) rfl) (fun H locs hP hD hS => ?_)
    refine lv_istore_n (lv' := [(2, .int r1), (1, .int 0), (0, .ref a_p0)]) hx hb d_Scene_rank_6 rfl hl (by decide) rfl (fun ls hl => ?_)
    refine lv_iconst (v := 0) hx hb d_Scene_rank_7 (by decide) ?_
    refine lv_istore_n (lv' := [(3, .int 0), (2, .int r1), (1, .int 0), (0, .ref a_p0)]) hx hb d_Scene_rank_8 rfl hl (by decide) rfl (fun ls hl => ?_)
    exact B_9 300 0 r1 0 _ _ _ hP hD hS (lv_sub hl [3, 2, 1, 0] rfl) hf
  exact E _ _ hP hS
set_option maxHeartbeats 4000000 in
set_option maxRecDepth 100000 in
theorem c_Hall_has (l : Launch) (D : va_G) (cI cZ : ClassId) (a_p0 z_layers z_kinds z_patiences z_wanted : Nat) (i1 : Int32) (v_count : Int32) (res : Int32) (hf : f_Hall_has i1 v_count = some res) : CtI l y_Hall_has b_Hall_has 2 (some .boolean) 0 D cI cZ [.ref a_p0, .int i1] (cs_Hall_has cI cZ a_p0 z_layers z_kinds z_patiences z_wanted v_count) res (cs_Hall_has cI cZ a_p0 z_layers z_kinds z_patiences z_wanted v_count) := by
  refine CtI_mk (by decide) (Nat.le_of_ble_eq_true rfl) ?_
  intro p e s m args below meth c A Q hC hA hP hD RET ls hl
  have hC : Cx p s m args meth c b_Hall_has 2 R_Hall D cI cZ := hC
  have hl : lv_has ls 2 [(0, .ref a_p0), (1, .int i1)] := hl
  obtain ⟨hx, hb, hml, hown, hts, hlk, hKK⟩ := id hC
  have hS : va_S A s.heap s.heap [] := va_S.rf
  have B_17 : ∀  (w0 : Int32) (H : Heap) (locs : List Loc) (ls : Array Slot), va_P D classes (cs_Hall_has cI cZ a_p0 z_layers z_kinds z_patiences z_wanted v_count) H → va_D A (cs_Hall_has cI cZ a_p0 z_layers z_kinds z_patiences z_wanted v_count) → va_S A s.heap H locs → lv_has ls 2 [] → f_Hall_has_17  v_count w0 = some res → W p l e (rm_ 0 (40 * 0)) s m args below meth c H locs 0 0 Q (F0 m 17 ls [.int w0]) := by
    intro  w0 H locs ls hP hD hS hl hf
    unfold f_Hall_has_17 at hf
    obtain ⟨h1, hf⟩ := o_ite hf
    have hr := Option.some.inj hf
    exact RET _ _ _ _ _ _ (narB h1) (congrArg (fun r : Int32 => r) hr) rfl hP hD hS d_Hall_has_17
  have B_16 : ∀   (H : Heap) (locs : List Loc) (ls : Array Slot), va_P D classes (cs_Hall_has cI cZ a_p0 z_layers z_kinds z_patiences z_wanted v_count) H → va_D A (cs_Hall_has cI cZ a_p0 z_layers z_kinds z_patiences z_wanted v_count) → va_S A s.heap H locs → lv_has ls 2 [] → f_Hall_has_16  v_count  = some res → W p l e (rm_ 0 (40 * 0)) s m args below meth c H locs 0 0 Q (F0 m 16 ls []) := by
    intro   H locs ls hP hD hS hl hf
    unfold f_Hall_has_16 at hf
    refine lv_iconst (v := 0) hx hb d_Hall_has_16 (by decide) ?_
    exact B_17 0 _ _ _ hP hD hS (lv_sub hl [] rfl) hf
  unfold f_Hall_has at hf
  have E : ∀ (H : Heap) (locs : List Loc), va_P D classes (cs_Hall_has cI cZ a_p0 z_layers z_kinds z_patiences z_wanted v_count) H → va_S A s.heap H locs → W p l e (rm_ 0 (40 * 0)) s m args below meth c H locs 0 0 Q (F0 m 0 ls []) := by
    intro H locs hP hS
    refine lv_iload_n hx hb d_Hall_has_0 rfl (lv_at hl 1 rfl) ?_
    refine lv_if_lt (tgt := 16) hx hb d_Hall_has_1 (by decide) (fun c1 => ?_) (fun c1 => ?_)
    · have hf := o_pos c1 hf
      exact B_16 _ _ _ hP hD hS (lv_sub hl [] rfl) hf
    · have hf := o_neg c1 hf
      refine lv_iload_n hx hb d_Hall_has_4 rfl (lv_at hl 1 rfl) ?_
      refine lv_aload_n hx hb d_Hall_has_5 rfl (lv_at hl 0 rfl) ?_
      refine gf_Hall_24 hC hP 0 rfl rfl d_Hall_has_6 ?_
      refine lv_icmp_ge (tgt := 16) hx hb d_Hall_has_9 (by decide) (fun c2 => ?_) (fun c2 => ?_)
      · have hf := o_pos c2 hf
        exact B_16 _ _ _ hP hD hS (lv_sub hl [] rfl) hf
      · have hf := o_neg c2 hf
        refine lv_iconst (v := 1) hx hb d_Hall_has_12 (by decide) ?_
        refine lv_goto (tgt := 17) hx hb d_Hall_has_13 (by decide) ?_
        exact B_17 1 _ _ _ hP hD hS (lv_sub hl [] rfl) hf
  exact E _ _ hP hS
set_option maxHeartbeats 4000000 in
set_option maxRecDepth 100000 in
theorem c_Hall_patience (l : Launch) (D : va_G) (cI cZ : ClassId) (a_p0 a_patiences z_layers z_kinds z_wanted : Nat) (i1 : Int32) (v_count : Int32) (v_patiences : Nat → Int32) (res : Int32) (hf : f_Hall_patience i1 v_count v_patiences = some res) : CtI l y_Hall_patience b_Hall_patience 2 (some .int) 0 D cI cZ [.ref a_p0, .int i1] (cs_Hall_patience cI cZ a_p0 a_patiences z_layers z_kinds z_wanted v_count v_patiences) res (cs_Hall_patience cI cZ a_p0 a_patiences z_layers z_kinds z_wanted v_count v_patiences) := by
  refine CtI_mk (by decide) (Nat.le_of_ble_eq_true rfl) ?_
  intro p e s m args below meth c A Q hC hA hP hD RET ls hl
  have hC : Cx p s m args meth c b_Hall_patience 2 R_Hall D cI cZ := hC
  have hl : lv_has ls 2 [(0, .ref a_p0), (1, .int i1)] := hl
  obtain ⟨hx, hb, hml, hown, hts, hlk, hKK⟩ := id hC
  have hS : va_S A s.heap s.heap [] := va_S.rf
  have B_22 : ∀  (w0 : Int32) (H : Heap) (locs : List Loc) (ls : Array Slot), va_P D classes (cs_Hall_patience cI cZ a_p0 a_patiences z_layers z_kinds z_wanted v_count v_patiences) H → va_D A (cs_Hall_patience cI cZ a_p0 a_patiences z_layers z_kinds z_wanted v_count v_patiences) → va_S A s.heap H locs → lv_has ls 2 [] → f_Hall_patience_22  v_count v_patiences w0 = some res → W p l e (rm_ 0 (40 * 0)) s m args below meth c H locs 0 0 Q (F0 m 22 ls [.int w0]) := by
    intro  w0 H locs ls hP hD hS hl hf
    unfold f_Hall_patience_22 at hf
    have hr := Option.some.inj hf
    exact RET _ _ _ _ _ _ rfl (congrArg (fun r : Int32 => r) hr) rfl hP hD hS d_Hall_patience_22
  have B_21 : ∀   (H : Heap) (locs : List Loc) (ls : Array Slot), va_P D classes (cs_Hall_patience cI cZ a_p0 a_patiences z_layers z_kinds z_wanted v_count v_patiences) H → va_D A (cs_Hall_patience cI cZ a_p0 a_patiences z_layers z_kinds z_wanted v_count v_patiences) → va_S A s.heap H locs → lv_has ls 2 [] → f_Hall_patience_21  v_count v_patiences  = some res → W p l e (rm_ 0 (40 * 0)) s m args below meth c H locs 0 0 Q (F0 m 21 ls []) := by
    intro   H locs ls hP hD hS hl hf
    unfold f_Hall_patience_21 at hf
    refine lv_iconst (v := 0) hx hb d_Hall_patience_21 (by decide) ?_
    exact B_22 0 _ _ _ hP hD hS (lv_sub hl [] rfl) hf
  unfold f_Hall_patience at hf
  have E : ∀ (H : Heap) (locs : List Loc), va_P D classes (cs_Hall_patience cI cZ a_p0 a_patiences z_layers z_kinds z_wanted v_count v_patiences) H → va_S A s.heap H locs → W p l e (rm_ 0 (40 * 0)) s m args below meth c H locs 0 0 Q (F0 m 0 ls []) := by
    intro H locs hP hS
    refine lv_iload_n hx hb d_Hall_patience_0 rfl (lv_at hl 1 rfl) ?_
    refine lv_if_lt (tgt := 21) hx hb d_Hall_patience_1 (by decide) (fun c1 => ?_) (fun c1 => ?_)
    · have hf := o_pos c1 hf
      exact B_21 _ _ _ hP hD hS (lv_sub hl [] rfl) hf
    · have hf := o_neg c1 hf
      refine lv_iload_n hx hb d_Hall_patience_4 rfl (lv_at hl 1 rfl) ?_
      refine lv_aload_n hx hb d_Hall_patience_5 rfl (lv_at hl 0 rfl) ?_
      refine gf_Hall_24 hC hP 0 rfl rfl d_Hall_patience_6 ?_
      refine lv_icmp_ge (tgt := 21) hx hb d_Hall_patience_9 (by decide) (fun c2 => ?_) (fun c2 => ?_)
      · have hf := o_pos c2 hf
        exact B_21 _ _ _ hP hD hS (lv_sub hl [] rfl) hf
      · have hf := o_neg c2 hf
        refine lv_aload_n hx hb d_Hall_patience_12 rfl (lv_at hl 0 rfl) ?_
        refine gf_Hall_18 hC hP 0 rfl rfl d_Hall_patience_13 ?_
        refine lv_iload_n hx hb d_Hall_patience_16 rfl (lv_at hl 1 rfl) ?_
        obtain ⟨v3, h4, hf⟩ := o_bind hf
        refine r_iald hC hP 1 rfl h4 d_Hall_patience_17 ?_
        refine lv_goto (tgt := 22) hx hb d_Hall_patience_18 (by decide) ?_
        exact B_22 v3 _ _ _ hP hD hS (lv_sub hl [] rfl) hf
  exact E _ _ hP hS
set_option maxHeartbeats 4000000 in
set_option maxRecDepth 100000 in
theorem c_Shelf_forgetFirst (l : Launch) (D : va_G) (cI cZ : ClassId) (a_p0 a_cells n_cells : Nat) (v_places : Int32) (v_cells : Nat → Int32) (res : (Nat → Int32)) (hf : f_Shelf_forgetFirst n_cells v_places v_cells = some res) : CtV l y_Shelf_forgetFirst b_Shelf_forgetFirst 1 none 1 D cI cZ [.ref a_p0] (cs_Shelf_forgetFirst cI cZ a_p0 a_cells n_cells v_places v_cells) (cs_Shelf_forgetFirst cI cZ a_p0 a_cells n_cells v_places res) := by
  refine CtV_mk (by decide) (Nat.le_of_ble_eq_true rfl) ?_
  intro p e s m args below meth c A Q hC hA hP hD RET ls hl
  have hC : Cx p s m args meth c b_Shelf_forgetFirst 1 R_Shelf D cI cZ := hC
  have hl : lv_has ls 1 [(0, .ref a_p0)] := hl
  obtain ⟨hx, hb, hml, hown, hts, hlk, hKK⟩ := id hC
  have hS : va_S A s.heap s.heap [] := va_S.rf
  have B_30 : ∀  (v_cells : Nat → Int32) (H : Heap) (locs : List Loc) (ls : Array Slot), va_P D classes (cs_Shelf_forgetFirst cI cZ a_p0 a_cells n_cells v_places v_cells) H → va_D A (cs_Shelf_forgetFirst cI cZ a_p0 a_cells n_cells v_places v_cells) → va_S A s.heap H locs → lv_has ls 1 [] → f_Shelf_forgetFirst_30  n_cells v_places v_cells = some res → W p l e (rm_ 1 (40 * 1)) s m args below meth c H locs 0 0 Q (F0 m 30 ls []) := by
    intro  v_cells H locs ls hP hD hS hl hf
    unfold f_Shelf_forgetFirst_30 at hf
    have hr := Option.some.inj hf
    exact RET _ _ _ _ _ (congrArg (fun r : (Nat → Int32) => (cs_Shelf_forgetFirst cI cZ a_p0 a_cells n_cells v_places r)) hr) hP hD hS d_Shelf_forgetFirst_30
  unfold f_Shelf_forgetFirst at hf
  have E : ∀ (H : Heap) (locs : List Loc), va_P D classes (cs_Shelf_forgetFirst cI cZ a_p0 a_cells n_cells v_places v_cells) H → va_S A s.heap H locs → W p l e (rm_ 1 (40 * 1)) s m args below meth c H locs 0 0 Q (F0 m 0 ls []) := by
    intro H locs hP hS
    refine lv_aload_n hx hb d_Shelf_forgetFirst_0 rfl (lv_at hl 0 rfl) ?_
    refine gf_Shelf_15 hC hP 0 rfl rfl d_Shelf_forgetFirst_1 ?_
    refine lv_if_le (tgt := 30) hx hb d_Shelf_forgetFirst_4 (by decide) (fun c1 => ?_) (fun c1 => ?_)
    · have hf := o_pos c1 hf
      exact B_30 v_cells _ _ _ hP hD hS (lv_sub hl [] rfl) hf
    · have hf := o_neg c1 hf
      refine lv_aload_n hx hb d_Shelf_forgetFirst_7 rfl (lv_at hl 0 rfl) ?_
      refine gf_Shelf_23 hC hP 0 rfl rfl d_Shelf_forgetFirst_8 ?_
      refine lv_bipush (v := 10) hx hb d_Shelf_forgetFirst_11 (by decide) ?_
      refine lv_aload_n hx hb d_Shelf_forgetFirst_13 rfl (lv_at hl 0 rfl) ?_
      refine gf_Shelf_23 hC hP 0 rfl rfl d_Shelf_forgetFirst_14 ?_
      refine lv_iconst (v := 0) hx hb d_Shelf_forgetFirst_17 (by decide) ?_
      refine lv_aload_n hx hb d_Shelf_forgetFirst_18 rfl (lv_at hl 0 rfl) ?_
      refine gf_Shelf_15 hC hP 0 rfl rfl d_Shelf_forgetFirst_19 ?_
      refine lv_iconst (v := 1) hx hb d_Shelf_forgetFirst_22 (by decide) ?_
      refine lv_isub hx hb d_Shelf_forgetFirst_23 ?_
      refine lv_bipush (v := 10) hx hb d_Shelf_forgetFirst_24 (by decide) ?_
      refine lv_imul hx hb d_Shelf_forgetFirst_26 ?_
      obtain ⟨g2, h3, hf⟩ := o_bind hf
      refine r_copy hC hP hD hS hl.1 g295 g297 g296 g11 1 1 rfl rfl h3 (Nat.le_of_ble_eq_true rfl) (Nat.le_of_ble_eq_true rfl) d_Shelf_forgetFirst_27 (fun H locs hP hD hS => ?_)
      have hP : va_P D classes (cs_Shelf_forgetFirst cI cZ a_p0 a_cells n_cells v_places g2) H := hP
      have hD : va_D A (cs_Shelf_forgetFirst cI cZ a_p0 a_cells n_cells v_places g2) := hD
      exact B_30 g2 _ _ _ hP hD hS (lv_sub hl [] rfl) hf
  exact E _ _ hP hS
set_option maxHeartbeats 4000000 in
set_option maxRecDepth 100000 in
theorem c_Shelf_put (l : Launch) (D : va_G) (cI cZ : ClassId) (a_p0 a_cells a_p2 a_p2_off a_p2_waited n_cells : Nat) (i1 : Int32) (v_places : Int32) (v_cells : Nat → Int32) (v_p2_nights : Int32) (v_p2_off : Nat → Int32) (v_p2_waited : Nat → Int32) (res : (Nat → Int32)) (hf : f_Shelf_put i1 n_cells v_places v_p2_nights v_p2_off v_p2_waited v_cells = some res) : CtV l y_Shelf_put b_Shelf_put 4 none 1 D cI cZ [.ref a_p0, .int i1, .ref a_p2] (cs_Shelf_put cI cZ a_p0 a_cells a_p2 a_p2_off a_p2_waited n_cells v_places v_cells v_p2_nights v_p2_off v_p2_waited) (cs_Shelf_put cI cZ a_p0 a_cells a_p2 a_p2_off a_p2_waited n_cells v_places res v_p2_nights v_p2_off v_p2_waited) := by
  refine CtV_mk (by decide) (Nat.le_of_ble_eq_true rfl) ?_
  intro p e s m args below meth c A Q hC hA hP hD RET ls hl
  have hC : Cx p s m args meth c b_Shelf_put 4 R_Shelf D cI cZ := hC
  have hl : lv_has ls 4 [(0, .ref a_p0), (1, .int i1), (2, .ref a_p2)] := hl
  obtain ⟨hx, hb, hml, hown, hts, hlk, hKK⟩ := id hC
  have hS : va_S A s.heap s.heap [] := va_S.rf
  have B_12 : ∀  (v_cells : Nat → Int32) (H : Heap) (locs : List Loc) (ls : Array Slot), va_P D classes (cs_Shelf_put cI cZ a_p0 a_cells a_p2 a_p2_off a_p2_waited n_cells v_places v_cells v_p2_nights v_p2_off v_p2_waited) H → va_D A (cs_Shelf_put cI cZ a_p0 a_cells a_p2 a_p2_off a_p2_waited n_cells v_places v_cells v_p2_nights v_p2_off v_p2_waited) → va_S A s.heap H locs → lv_has ls 4 [] → f_Shelf_put_12  n_cells v_places v_p2_nights v_p2_off v_p2_waited v_cells = some res → W p l e (rm_ 1 (40 * 1)) s m args below meth c H locs 0 0 Q (F0 m 12 ls []) := by
    intro  v_cells H locs ls hP hD hS hl hf
    unfold f_Shelf_put_12 at hf
    have hr := Option.some.inj hf
    exact RET _ _ _ _ _ (congrArg (fun r : (Nat → Int32) => (cs_Shelf_put cI cZ a_p0 a_cells a_p2 a_p2_off a_p2_waited n_cells v_places r v_p2_nights v_p2_off v_p2_waited)) hr) hP hD hS d_Shelf_put_12
  unfold f_Shelf_put at hf
  have E : ∀ (H : Heap) (locs : List Loc), va_P D classes (cs_Shelf_put cI cZ a_p0 a_cells a_p2 a_p2_off a_p2_waited n_cells v_places v_cells v_p2_nights v_p2_off v_p2_waited) H → va_S A s.heap H locs → W p l e (rm_ 1 (40 * 1)) s m args below meth c H locs 0 0 Q (F0 m 0 ls []) := by
    intro H locs hP hS
    refine lv_iload_n hx hb d_Shelf_put_0 rfl (lv_at hl 1 rfl) ?_
    refine lv_if_lt (tgt := 12) hx hb d_Shelf_put_1 (by decide) (fun c1 => ?_) (fun c1 => ?_)
    · have hf := o_pos c1 hf
      exact B_12 v_cells _ _ _ hP hD hS (lv_sub hl [] rfl) hf
    · have hf := o_neg c1 hf
      refine lv_iload_n hx hb d_Shelf_put_4 rfl (lv_at hl 1 rfl) ?_
      refine lv_aload_n hx hb d_Shelf_put_5 rfl (lv_at hl 0 rfl) ?_
      refine gf_Shelf_15 hC hP 0 rfl rfl d_Shelf_put_6 ?_
      refine lv_icmp_lt (tgt := 13) hx hb d_Shelf_put_9 (by decide) (fun c2 => ?_) (fun c2 => ?_)
      · have hf := o_pos c2 hf
        refine lv_iload_n hx hb d_Shelf_put_13 rfl (lv_at hl 1 rfl) ?_
        refine lv_bipush (v := 10) hx hb d_Shelf_put_14 (by decide) ?_
        refine lv_imul hx hb d_Shelf_put_16 ?_
        refine lv_istore_n (lv' := [(3, .int (i1 * 10)), (0, .ref a_p0), (1, .int i1), (2, .ref a_p2)]) hx hb d_Shelf_put_17 rfl hl (by decide) rfl (fun ls hl => ?_)
        refine lv_aload_n hx hb d_Shelf_put_18 rfl (lv_at hl 3 rfl) ?_
        refine gf_Shelf_27 hC hP 2 rfl rfl d_Shelf_put_19 ?_
        refine lv_iconst (v := 0) hx hb d_Shelf_put_22 (by decide) ?_
        refine lv_aload_n hx hb d_Shelf_put_23 rfl (lv_at hl 1 rfl) ?_
        refine gf_Shelf_23 hC hP 0 rfl rfl d_Shelf_put_24 ?_
        refine lv_iload_n hx hb d_Shelf_put_27 rfl (lv_at hl 0 rfl) ?_
        refine lv_iconst (v := 4) hx hb d_Shelf_put_28 (by decide) ?_
        obtain ⟨g3, h4, hf⟩ := o_bind hf
        refine r_copy hC hP hD hS hl.1 g295 g297 g296 g11 3 1 rfl rfl h4 (Nat.le_of_ble_eq_true rfl) (Nat.le_of_ble_eq_true rfl) d_Shelf_put_29 (fun H locs hP hD hS => ?_)
        have hP : va_P D classes (cs_Shelf_put cI cZ a_p0 a_cells a_p2 a_p2_off a_p2_waited n_cells v_places g3 v_p2_nights v_p2_off v_p2_waited) H := hP
        have hD : va_D A (cs_Shelf_put cI cZ a_p0 a_cells a_p2 a_p2_off a_p2_waited n_cells v_places g3 v_p2_nights v_p2_off v_p2_waited) := hD
        refine lv_aload_n hx hb d_Shelf_put_32 rfl (lv_at hl 3 rfl) ?_
        refine gf_Shelf_36 hC hP 2 rfl rfl d_Shelf_put_33 ?_
        refine lv_iconst (v := 0) hx hb d_Shelf_put_36 (by decide) ?_
        refine lv_aload_n hx hb d_Shelf_put_37 rfl (lv_at hl 1 rfl) ?_
        refine gf_Shelf_23 hC hP 0 rfl rfl d_Shelf_put_38 ?_
        refine lv_iload_n hx hb d_Shelf_put_41 rfl (lv_at hl 0 rfl) ?_
        refine lv_iconst (v := 4) hx hb d_Shelf_put_42 (by decide) ?_
        refine lv_iadd hx hb d_Shelf_put_43 ?_
        refine lv_iconst (v := 5) hx hb d_Shelf_put_44 (by decide) ?_
        obtain ⟨g5, h6, hf⟩ := o_bind hf
        refine r_copy hC hP hD hS hl.1 g295 g297 g296 g11 4 1 rfl rfl h6 (Nat.le_of_ble_eq_true rfl) (Nat.le_of_ble_eq_true rfl) d_Shelf_put_45 (fun H locs hP hD hS => ?_)
        have hP : va_P D classes (cs_Shelf_put cI cZ a_p0 a_cells a_p2 a_p2_off a_p2_waited n_cells v_places g5 v_p2_nights v_p2_off v_p2_waited) H := hP
        have hD : va_D A (cs_Shelf_put cI cZ a_p0 a_cells a_p2 a_p2_off a_p2_waited n_cells v_places g5 v_p2_nights v_p2_off v_p2_waited) := hD
        refine lv_aload_n hx hb d_Shelf_put_48 rfl (lv_at hl 1 rfl) ?_
        refine gf_Shelf_23 hC hP 0 rfl rfl d_Shelf_put_49 ?_
        refine lv_iload_n hx hb d_Shelf_put_52 rfl (lv_at hl 0 rfl) ?_
        refine lv_iconst (v := 4) hx hb d_Shelf_put_53 (by decide) ?_
        refine lv_iadd hx hb d_Shelf_put_54 ?_
        refine lv_iconst (v := 5) hx hb d_Shelf_put_55 (by decide) ?_
        refine lv_iadd hx hb d_Shelf_put_56 ?_
        refine lv_aload_n hx hb d_Shelf_put_57 rfl (lv_at hl 3 rfl) ?_
        refine gf_Shelf_39 hC hP 2 rfl rfl d_Shelf_put_58 ?_
        obtain ⟨g7, h8, hf⟩ := o_bind hf
        refine r_iast hC hP hD hS 1 rfl h8 d_Shelf_put_61 (fun H locs hP hD hS => ?_)
        have hP : va_P D classes (cs_Shelf_put cI cZ a_p0 a_cells a_p2 a_p2_off a_p2_waited n_cells v_places g7 v_p2_nights v_p2_off v_p2_waited) H := hP
        have hD : va_D A (cs_Shelf_put cI cZ a_p0 a_cells a_p2 a_p2_off a_p2_waited n_cells v_places g7 v_p2_nights v_p2_off v_p2_waited) := hD
        have hr := Option.some.inj hf
        exact RET _ _ _ _ _ (congrArg (fun r : (Nat → Int32) => (cs_Shelf_put cI cZ a_p0 a_cells a_p2 a_p2_off a_p2_waited n_cells v_places r v_p2_nights v_p2_off v_p2_waited)) hr) hP hD hS d_Shelf_put_62
      · have hf := o_neg c2 hf
        exact B_12 v_cells _ _ _ hP hD hS (lv_sub hl [] rfl) hf
  exact E _ _ hP hS
set_option maxHeartbeats 4000000 in
set_option maxRecDepth 100000 in
theorem c_Scene_pass (l : Launch) (D : va_G) (cI cZ : ClassId) (a_p0 a_waited a_p1 a_p1_kinds a_p1_patiences z_off z_p1_layers z_p1_wanted : Nat) (i2 : Int32) (v_nights : Int32) (v_waited : Nat → Int32) (v_p1_count : Int32) (v_p1_kinds : Nat → Int32) (v_p1_patiences : Nat → Int32) (res : Int32 × (Nat → Int32)) (hf : f_Scene_pass i2 v_p1_count v_p1_kinds v_p1_patiences v_nights v_waited = some res) : CtV l y_Scene_pass b_Scene_pass 6 none 1 D cI cZ [.ref a_p0, .ref a_p1, .int i2] (cs_Scene_pass cI cZ a_p0 a_waited a_p1 a_p1_kinds a_p1_patiences z_off z_p1_layers z_p1_wanted v_nights v_waited v_p1_count v_p1_kinds v_p1_patiences) (cs_Scene_pass cI cZ a_p0 a_waited a_p1 a_p1_kinds a_p1_patiences z_off z_p1_layers z_p1_wanted res.1 res.2 v_p1_count v_p1_kinds v_p1_patiences) := by
  refine CtV_mk (by decide) (Nat.le_of_ble_eq_true rfl) ?_
  intro p e s m args below meth c A Q hC hA hP hD RET ls hl
  have hC : Cx p s m args meth c b_Scene_pass 6 R_Scene D cI cZ := hC
  have hl : lv_has ls 6 [(0, .ref a_p0), (1, .ref a_p1), (2, .int i2)] := hl
  obtain ⟨hx, hb, hml, hown, hts, hlk, hKK⟩ := id hC
  have hS : va_S A s.heap s.heap [] := va_S.rf
  have B_107 : ∀ (back_2 : Int32 → Int32 → Int32 → (Nat → Int32) → Option (Int32 × (Nat → Int32))) (K_2 : ∀ (x2 : Int32) (x3 : Int32) (v_nights : Int32) (v_waited : Nat → Int32) (H : Heap) (locs : List Loc) (ls : Array Slot), va_P D classes (cs_Scene_pass cI cZ a_p0 a_waited a_p1 a_p1_kinds a_p1_patiences z_off z_p1_layers z_p1_wanted v_nights v_waited v_p1_count v_p1_kinds v_p1_patiences) H → va_D A (cs_Scene_pass cI cZ a_p0 a_waited a_p1 a_p1_kinds a_p1_patiences z_off z_p1_layers z_p1_wanted v_nights v_waited v_p1_count v_p1_kinds v_p1_patiences) → va_S A s.heap H locs → lv_has ls 6 [(0, .ref a_p0), (1, .ref a_p1), (2, .int x2), (3, .int x3)] → back_2 x2 x3 v_nights v_waited = some res → W p l e (rm_ 1 (40 * 1)) s m args below meth c H locs 0 0 Q (F0 m 2 ls [])) (x2 : Int32) (x3 : Int32) (v_nights : Int32) (v_waited : Nat → Int32) (H : Heap) (locs : List Loc) (ls : Array Slot), va_P D classes (cs_Scene_pass cI cZ a_p0 a_waited a_p1 a_p1_kinds a_p1_patiences z_off z_p1_layers z_p1_wanted v_nights v_waited v_p1_count v_p1_kinds v_p1_patiences) H → va_D A (cs_Scene_pass cI cZ a_p0 a_waited a_p1 a_p1_kinds a_p1_patiences z_off z_p1_layers z_p1_wanted v_nights v_waited v_p1_count v_p1_kinds v_p1_patiences) → va_S A s.heap H locs → lv_has ls 6 [(0, .ref a_p0), (1, .ref a_p1), (2, .int x2), (3, .int x3)] → f_Scene_pass_107 back_2 v_p1_count v_p1_kinds v_p1_patiences x2 x3 v_nights v_waited = some res → W p l e (rm_ 1 (40 * 1)) s m args below meth c H locs 0 0 Q (F0 m 107 ls []) := by
    intro back_2 K_2 x2 x3 v_nights v_waited H locs ls hP hD hS hl hf
    unfold f_Scene_pass_107 at hf
    refine lv_iinc (v := x3 + 1) (lv' := [(3, .int (x3 + 1)), (0, .ref a_p0), (1, .ref a_p1), (2, .int x2)]) hx hb d_Scene_pass_107 hl (k := 3) rfl (rfl) (by decide) rfl (fun ls hl => ?_)
    refine lv_goto (tgt := 2) hx hb d_Scene_pass_110 (by decide) ?_
    exact K_2 x2 (x3 + 1) v_nights v_waited _ _ _ hP hD hS (lv_sub hl [1, 2, 3, 0] rfl) hf
  have B_92 : ∀ (back_2 : Int32 → Int32 → Int32 → (Nat → Int32) → Option (Int32 × (Nat → Int32))) (K_2 : ∀ (x2 : Int32) (x3 : Int32) (v_nights : Int32) (v_waited : Nat → Int32) (H : Heap) (locs : List Loc) (ls : Array Slot), va_P D classes (cs_Scene_pass cI cZ a_p0 a_waited a_p1 a_p1_kinds a_p1_patiences z_off z_p1_layers z_p1_wanted v_nights v_waited v_p1_count v_p1_kinds v_p1_patiences) H → va_D A (cs_Scene_pass cI cZ a_p0 a_waited a_p1 a_p1_kinds a_p1_patiences z_off z_p1_layers z_p1_wanted v_nights v_waited v_p1_count v_p1_kinds v_p1_patiences) → va_S A s.heap H locs → lv_has ls 6 [(0, .ref a_p0), (1, .ref a_p1), (2, .int x2), (3, .int x3)] → back_2 x2 x3 v_nights v_waited = some res → W p l e (rm_ 1 (40 * 1)) s m args below meth c H locs 0 0 Q (F0 m 2 ls [])) (x2 : Int32) (x3 : Int32) (v_nights : Int32) (v_waited : Nat → Int32) (H : Heap) (locs : List Loc) (ls : Array Slot), va_P D classes (cs_Scene_pass cI cZ a_p0 a_waited a_p1 a_p1_kinds a_p1_patiences z_off z_p1_layers z_p1_wanted v_nights v_waited v_p1_count v_p1_kinds v_p1_patiences) H → va_D A (cs_Scene_pass cI cZ a_p0 a_waited a_p1 a_p1_kinds a_p1_patiences z_off z_p1_layers z_p1_wanted v_nights v_waited v_p1_count v_p1_kinds v_p1_patiences) → va_S A s.heap H locs → lv_has ls 6 [(0, .ref a_p0), (1, .ref a_p1), (2, .int x2), (3, .int x3)] → f_Scene_pass_92 back_2 v_p1_count v_p1_kinds v_p1_patiences x2 x3 v_nights v_waited = some res → W p l e (rm_ 1 (40 * 1)) s m args below meth c H locs 0 0 Q (F0 m 92 ls []) := by
    intro back_2 K_2 x2 x3 v_nights v_waited H locs ls hP hD hS hl hf
    unfold f_Scene_pass_92 at hf
    refine lv_goto (tgt := 107) hx hb d_Scene_pass_92 (by decide) ?_
    exact B_107 back_2 K_2 x2 x3 v_nights v_waited _ _ _ hP hD hS (lv_sub hl [0, 1, 2, 3] rfl) hf
  have B_63 : ∀ (back_2 : Int32 → Int32 → Int32 → (Nat → Int32) → Option (Int32 × (Nat → Int32))) (K_2 : ∀ (x2 : Int32) (x3 : Int32) (v_nights : Int32) (v_waited : Nat → Int32) (H : Heap) (locs : List Loc) (ls : Array Slot), va_P D classes (cs_Scene_pass cI cZ a_p0 a_waited a_p1 a_p1_kinds a_p1_patiences z_off z_p1_layers z_p1_wanted v_nights v_waited v_p1_count v_p1_kinds v_p1_patiences) H → va_D A (cs_Scene_pass cI cZ a_p0 a_waited a_p1 a_p1_kinds a_p1_patiences z_off z_p1_layers z_p1_wanted v_nights v_waited v_p1_count v_p1_kinds v_p1_patiences) → va_S A s.heap H locs → lv_has ls 6 [(0, .ref a_p0), (1, .ref a_p1), (2, .int x2), (3, .int x3)] → back_2 x2 x3 v_nights v_waited = some res → W p l e (rm_ 1 (40 * 1)) s m args below meth c H locs 0 0 Q (F0 m 2 ls [])) (x2 : Int32) (x3 : Int32) (w0 : Int32) (v_nights : Int32) (v_waited : Nat → Int32) (H : Heap) (locs : List Loc) (ls : Array Slot), va_P D classes (cs_Scene_pass cI cZ a_p0 a_waited a_p1 a_p1_kinds a_p1_patiences z_off z_p1_layers z_p1_wanted v_nights v_waited v_p1_count v_p1_kinds v_p1_patiences) H → va_D A (cs_Scene_pass cI cZ a_p0 a_waited a_p1 a_p1_kinds a_p1_patiences z_off z_p1_layers z_p1_wanted v_nights v_waited v_p1_count v_p1_kinds v_p1_patiences) → va_S A s.heap H locs → lv_has ls 6 [(0, .ref a_p0), (1, .ref a_p1), (2, .int x2), (3, .int x3)] → f_Scene_pass_63 back_2 v_p1_count v_p1_kinds v_p1_patiences x2 x3 w0 v_nights v_waited = some res → W p l e (rm_ 1 (40 * 1)) s m args below meth c H locs 0 0 Q (F0 m 63 ls [.int w0]) := by
    intro back_2 K_2 x2 x3 w0 v_nights v_waited H locs ls hP hD hS hl hf
    unfold f_Scene_pass_63 at hf
    refine lv_istore (lv' := [(5, .int w0), (0, .ref a_p0), (1, .ref a_p1), (2, .int x2), (3, .int x3)]) hx hb d_Scene_pass_63 hl (by decide) rfl (fun ls hl => ?_)
    refine lv_aload_n hx hb d_Scene_pass_65 rfl (lv_at hl 1 rfl) ?_
    refine gf_Scene_15 hC hP 0 rfl rfl d_Scene_pass_66 ?_
    refine lv_iload_n hx hb d_Scene_pass_69 rfl (lv_at hl 4 rfl) ?_
    obtain ⟨v1, h2, hf⟩ := o_bind hf
    refine r_iald hC hP 1 rfl h2 d_Scene_pass_70 ?_
    refine lv_aload_n hx hb d_Scene_pass_71 rfl (lv_at hl 2 rfl) ?_
    refine lv_iload_n hx hb d_Scene_pass_72 rfl (lv_at hl 4 rfl) ?_
    obtain ⟨r3, h4, hf⟩ := o_bind hf
    refine cVi (rest := [.int v1]) (wr := [(a_p0, .inr (2, [.ref z_off, .ref a_waited, .int v_nights])), (a_waited, .inl (cI, 5, .inl v_waited)), (a_p1_kinds, .inl (cI, 5, .inl v_p1_kinds))]) (wn := (cs_Scene_pass cI cZ a_p0 a_waited a_p1 a_p1_kinds a_p1_patiences z_off z_p1_layers z_p1_wanted v_nights v_waited v_p1_count v_p1_kinds v_p1_patiences)) (c_Hall_patience l D cI cZ a_p1 a_p1_patiences z_p1_layers a_p1_kinds z_p1_wanted x3 v_p1_count v_p1_patiences r3 h4) hC hA hP hD hS hl.1 cw_Scene_59 2 rfl rfl rfl ⟨Nat.le_of_ble_eq_true rfl, Nat.le_of_ble_eq_true rfl⟩ rfl rfl (Nat.le_of_ble_eq_true rfl) d_Scene_pass_73 ⟨Nat.zero_le _, Nat.zero_le _⟩ [2, 4] [0, 1, 3] [0, 1, 3, 2, 4] (by decide) (Cut_mk rfl rfl (by decide) (by decide) (by decide) rfl) (fun H locs hP hD hS => ?_)
    refine lv_icmp_lt (tgt := 92) hx hb d_Scene_pass_76 (by decide) (fun c5 => ?_) (fun c5 => ?_)
    · have hf := o_pos c5 hf
      exact B_92 back_2 K_2 x2 x3 v_nights v_waited _ _ _ hP hD hS (lv_sub hl [1, 2, 3, 4] rfl) hf
    · have hf := o_neg c5 hf
      refine lv_iload hx hb d_Scene_pass_79 (lv_at hl 0 rfl) ?_
      refine lv_if_ne (tgt := 92) hx hb d_Scene_pass_81 (by decide) (fun c6 => ?_) (fun c6 => ?_)
      · have hf := o_neg c6 hf
        exact B_92 back_2 K_2 x2 x3 v_nights v_waited _ _ _ hP hD hS (lv_sub hl [1, 2, 3, 4] rfl) hf
      · have hf := o_pos c6 hf
        refine lv_aload_n hx hb d_Scene_pass_84 rfl (lv_at hl 1 rfl) ?_
        refine gf_Scene_15 hC hP 0 rfl rfl d_Scene_pass_85 ?_
        refine lv_iload_n hx hb d_Scene_pass_88 rfl (lv_at hl 4 rfl) ?_
        refine lv_bipush (v := (-9)) hx hb d_Scene_pass_89 (by decide) ?_
        obtain ⟨g7, h8, hf⟩ := o_bind hf
        refine r_iast hC hP hD hS 1 rfl h8 d_Scene_pass_91 (fun H locs hP hD hS => ?_)
        have hP : va_P D classes (cs_Scene_pass cI cZ a_p0 a_waited a_p1 a_p1_kinds a_p1_patiences z_off z_p1_layers z_p1_wanted v_nights g7 v_p1_count v_p1_kinds v_p1_patiences) H := hP
        have hD : va_D A (cs_Scene_pass cI cZ a_p0 a_waited a_p1 a_p1_kinds a_p1_patiences z_off z_p1_layers z_p1_wanted v_nights g7 v_p1_count v_p1_kinds v_p1_patiences) := hD
        exact B_92 back_2 K_2 x2 x3 v_nights g7 _ _ _ hP hD hS (lv_sub hl [1, 2, 3, 4] rfl) hf
  have B_62 : ∀ (back_2 : Int32 → Int32 → Int32 → (Nat → Int32) → Option (Int32 × (Nat → Int32))) (K_2 : ∀ (x2 : Int32) (x3 : Int32) (v_nights : Int32) (v_waited : Nat → Int32) (H : Heap) (locs : List Loc) (ls : Array Slot), va_P D classes (cs_Scene_pass cI cZ a_p0 a_waited a_p1 a_p1_kinds a_p1_patiences z_off z_p1_layers z_p1_wanted v_nights v_waited v_p1_count v_p1_kinds v_p1_patiences) H → va_D A (cs_Scene_pass cI cZ a_p0 a_waited a_p1 a_p1_kinds a_p1_patiences z_off z_p1_layers z_p1_wanted v_nights v_waited v_p1_count v_p1_kinds v_p1_patiences) → va_S A s.heap H locs → lv_has ls 6 [(0, .ref a_p0), (1, .ref a_p1), (2, .int x2), (3, .int x3)] → back_2 x2 x3 v_nights v_waited = some res → W p l e (rm_ 1 (40 * 1)) s m args below meth c H locs 0 0 Q (F0 m 2 ls [])) (x2 : Int32) (x3 : Int32) (v_nights : Int32) (v_waited : Nat → Int32) (H : Heap) (locs : List Loc) (ls : Array Slot), va_P D classes (cs_Scene_pass cI cZ a_p0 a_waited a_p1 a_p1_kinds a_p1_patiences z_off z_p1_layers z_p1_wanted v_nights v_waited v_p1_count v_p1_kinds v_p1_patiences) H → va_D A (cs_Scene_pass cI cZ a_p0 a_waited a_p1 a_p1_kinds a_p1_patiences z_off z_p1_layers z_p1_wanted v_nights v_waited v_p1_count v_p1_kinds v_p1_patiences) → va_S A s.heap H locs → lv_has ls 6 [(0, .ref a_p0), (1, .ref a_p1), (2, .int x2), (3, .int x3)] → f_Scene_pass_62 back_2 v_p1_count v_p1_kinds v_p1_patiences x2 x3 v_nights v_waited = some res → W p l e (rm_ 1 (40 * 1)) s m args below meth c H locs 0 0 Q (F0 m 62 ls []) := by
    intro back_2 K_2 x2 x3 v_nights v_waited H locs ls hP hD hS hl hf
    unfold f_Scene_pass_62 at hf
    refine lv_iconst (v := 0) hx hb d_Scene_pass_62 (by decide) ?_
    exact B_63 back_2 K_2 x2 x3 0 v_nights v_waited _ _ _ hP hD hS (lv_sub hl [0, 1, 2, 3] rfl) hf
  have B_21 : ∀ (back_2 : Int32 → Int32 → Int32 → (Nat → Int32) → Option (Int32 × (Nat → Int32))) (K_2 : ∀ (x2 : Int32) (x3 : Int32) (v_nights : Int32) (v_waited : Nat → Int32) (H : Heap) (locs : List Loc) (ls : Array Slot), va_P D classes (cs_Scene_pass cI cZ a_p0 a_waited a_p1 a_p1_kinds a_p1_patiences z_off z_p1_layers z_p1_wanted v_nights v_waited v_p1_count v_p1_kinds v_p1_patiences) H → va_D A (cs_Scene_pass cI cZ a_p0 a_waited a_p1 a_p1_kinds a_p1_patiences z_off z_p1_layers z_p1_wanted v_nights v_waited v_p1_count v_p1_kinds v_p1_patiences) → va_S A s.heap H locs → lv_has ls 6 [(0, .ref a_p0), (1, .ref a_p1), (2, .int x2), (3, .int x3)] → back_2 x2 x3 v_nights v_waited = some res → W p l e (rm_ 1 (40 * 1)) s m args below meth c H locs 0 0 Q (F0 m 2 ls [])) (x2 : Int32) (x3 : Int32) (w0 : Int32) (v_nights : Int32) (v_waited : Nat → Int32) (H : Heap) (locs : List Loc) (ls : Array Slot), va_P D classes (cs_Scene_pass cI cZ a_p0 a_waited a_p1 a_p1_kinds a_p1_patiences z_off z_p1_layers z_p1_wanted v_nights v_waited v_p1_count v_p1_kinds v_p1_patiences) H → va_D A (cs_Scene_pass cI cZ a_p0 a_waited a_p1 a_p1_kinds a_p1_patiences z_off z_p1_layers z_p1_wanted v_nights v_waited v_p1_count v_p1_kinds v_p1_patiences) → va_S A s.heap H locs → lv_has ls 6 [(0, .ref a_p0), (1, .ref a_p1), (2, .int x2), (3, .int x3)] → f_Scene_pass_21 back_2 v_p1_count v_p1_kinds v_p1_patiences x2 x3 w0 v_nights v_waited = some res → W p l e (rm_ 1 (40 * 1)) s m args below meth c H locs 0 0 Q (F0 m 21 ls [.int w0]) := by
    intro back_2 K_2 x2 x3 w0 v_nights v_waited H locs ls hP hD hS hl hf
    unfold f_Scene_pass_21 at hf
    refine lv_istore (lv' := [(4, .int w0), (0, .ref a_p0), (1, .ref a_p1), (2, .int x2), (3, .int x3)]) hx hb d_Scene_pass_21 hl (by decide) rfl (fun ls hl => ?_)
    refine lv_aload_n hx hb d_Scene_pass_23 rfl (lv_at hl 1 rfl) ?_
    refine gf_Scene_15 hC hP 0 rfl rfl d_Scene_pass_24 ?_
    refine lv_iload_n hx hb d_Scene_pass_27 rfl (lv_at hl 4 rfl) ?_
    obtain ⟨v1, h2, hf⟩ := o_bind hf
    refine r_iald hC hP 1 rfl h2 d_Scene_pass_28 ?_
    refine lv_bipush (v := (-9)) hx hb d_Scene_pass_29 (by decide) ?_
    refine lv_icmp_eq (tgt := 95) hx hb d_Scene_pass_31 (by decide) (fun c3 => ?_) (fun c3 => ?_)
    · have hf := o_pos c3 hf
      refine lv_iload hx hb d_Scene_pass_95 (lv_at hl 0 rfl) ?_
      refine lv_if_eq (tgt := 107) hx hb d_Scene_pass_97 (by decide) (fun c4 => ?_) (fun c4 => ?_)
      · have hf := o_pos c4 hf
        exact B_107 back_2 K_2 x2 x3 v_nights v_waited _ _ _ hP hD hS (lv_sub hl [1, 2, 3, 4] rfl) hf
      · have hf := o_neg c4 hf
        refine lv_aload_n hx hb d_Scene_pass_100 rfl (lv_at hl 1 rfl) ?_
        refine gf_Scene_15 hC hP 0 rfl rfl d_Scene_pass_101 ?_
        refine lv_iload_n hx hb d_Scene_pass_104 rfl (lv_at hl 4 rfl) ?_
        refine lv_iconst (v := 0) hx hb d_Scene_pass_105 (by decide) ?_
        obtain ⟨g5, h6, hf⟩ := o_bind hf
        refine r_iast hC hP hD hS 1 rfl h6 d_Scene_pass_106 (fun H locs hP hD hS => ?_)
        have hP : va_P D classes (cs_Scene_pass cI cZ a_p0 a_waited a_p1 a_p1_kinds a_p1_patiences z_off z_p1_layers z_p1_wanted v_nights g5 v_p1_count v_p1_kinds v_p1_patiences) H := hP
        have hD : va_D A (cs_Scene_pass cI cZ a_p0 a_waited a_p1 a_p1_kinds a_p1_patiences z_off z_p1_layers z_p1_wanted v_nights g5 v_p1_count v_p1_kinds v_p1_patiences) := hD
        exact B_107 back_2 K_2 x2 x3 v_nights g5 _ _ _ hP hD hS (lv_sub hl [1, 2, 3, 4] rfl) hf
    · have hf := o_neg c3 hf
      refine lv_aload_n hx hb d_Scene_pass_34 rfl (lv_at hl 1 rfl) ?_
      refine gf_Scene_15 hC hP 0 rfl rfl d_Scene_pass_35 ?_
      refine lv_iload_n hx hb d_Scene_pass_38 rfl (lv_at hl 4 rfl) ?_
      refine lv_dup2_11 hx hb d_Scene_pass_39 rfl rfl ?_
      obtain ⟨v7, h8, hf⟩ := o_bind hf
      refine r_iald hC hP 1 rfl h8 d_Scene_pass_40 ?_
      refine lv_iconst (v := 1) hx hb d_Scene_pass_41 (by decide) ?_
      refine lv_iadd hx hb d_Scene_pass_42 ?_
      obtain ⟨g9, h10, hf⟩ := o_bind hf
      refine r_iast hC hP hD hS 1 rfl h10 d_Scene_pass_43 (fun H locs hP hD hS => ?_)
      have hP : va_P D classes (cs_Scene_pass cI cZ a_p0 a_waited a_p1 a_p1_kinds a_p1_patiences z_off z_p1_layers z_p1_wanted v_nights g9 v_p1_count v_p1_kinds v_p1_patiences) H := hP
      have hD : va_D A (cs_Scene_pass cI cZ a_p0 a_waited a_p1 a_p1_kinds a_p1_patiences z_off z_p1_layers z_p1_wanted v_nights g9 v_p1_count v_p1_kinds v_p1_patiences) := hD
      refine lv_aload_n hx hb d_Scene_pass_44 rfl (lv_at hl 2 rfl) ?_
      refine lv_iload_n hx hb d_Scene_pass_45 rfl (lv_at hl 4 rfl) ?_
      obtain ⟨r11, h12, hf⟩ := o_bind hf
      refine cVi (rest := []) (wr := [(a_p0, .inr (2, [.ref z_off, .ref a_waited, .int v_nights])), (a_waited, .inl (cI, 5, .inl g9)), (a_p1_patiences, .inl (cI, 5, .inl v_p1_patiences))]) (wn := (cs_Scene_pass cI cZ a_p0 a_waited a_p1 a_p1_kinds a_p1_patiences z_off z_p1_layers z_p1_wanted v_nights g9 v_p1_count v_p1_kinds v_p1_patiences)) (c_Hall_kind l D cI cZ a_p1 a_p1_kinds z_p1_layers a_p1_patiences z_p1_wanted x3 v_p1_count v_p1_kinds r11 h12) hC hA hP hD hS hl.1 cw_Scene_54 2 rfl rfl rfl ⟨Nat.le_of_ble_eq_true rfl, Nat.le_of_ble_eq_true rfl⟩ rfl rfl (Nat.le_of_ble_eq_true rfl) d_Scene_pass_46 ⟨Nat.zero_le _, Nat.zero_le _⟩ [2, 3] [0, 1, 4] [0, 1, 3, 4, 2] (by decide) (Cut_mk rfl rfl (by decide) (by decide) (by decide) rfl) (fun H locs hP hD hS => ?_)
      refine lv_iconst (v := 3) hx hb d_Scene_pass_49 (by decide) ?_
      refine lv_icmp_ne (tgt := 62) hx hb d_Scene_pass_50 (by decide) (fun c13 => ?_) (fun c13 => ?_)
      · have hf := o_neg c13 hf
        exact B_62 back_2 K_2 x2 x3 v_nights g9 _ _ _ hP hD hS (lv_sub hl [1, 2, 3, 4] rfl) hf
      · have hf := o_pos c13 hf
        refine lv_iload hx hb d_Scene_pass_53 (lv_at hl 0 rfl) ?_
        refine lv_if_eq (tgt := 62) hx hb d_Scene_pass_55 (by decide) (fun c14 => ?_) (fun c14 => ?_)
        · have hf := o_pos c14 hf
          exact B_62 back_2 K_2 x2 x3 v_nights g9 _ _ _ hP hD hS (lv_sub hl [1, 2, 3, 4] rfl) hf
        · have hf := o_neg c14 hf
          refine lv_iconst (v := 1) hx hb d_Scene_pass_58 (by decide) ?_
          refine lv_goto (tgt := 63) hx hb d_Scene_pass_59 (by decide) ?_
          exact B_63 back_2 K_2 x2 x3 1 v_nights g9 _ _ _ hP hD hS (lv_sub hl [1, 2, 3, 4] rfl) hf
  have B_2 : ∀  (n : Nat) (x2 : Int32) (x3 : Int32) (v_nights : Int32) (v_waited : Nat → Int32) (H : Heap) (locs : List Loc) (ls : Array Slot), va_P D classes (cs_Scene_pass cI cZ a_p0 a_waited a_p1 a_p1_kinds a_p1_patiences z_off z_p1_layers z_p1_wanted v_nights v_waited v_p1_count v_p1_kinds v_p1_patiences) H → va_D A (cs_Scene_pass cI cZ a_p0 a_waited a_p1 a_p1_kinds a_p1_patiences z_off z_p1_layers z_p1_wanted v_nights v_waited v_p1_count v_p1_kinds v_p1_patiences) → va_S A s.heap H locs → lv_has ls 6 [(0, .ref a_p0), (1, .ref a_p1), (2, .int x2), (3, .int x3)] → f_Scene_pass_2  v_p1_count v_p1_kinds v_p1_patiences n x2 x3 v_nights v_waited = some res → W p l e (rm_ 1 (40 * 1)) s m args below meth c H locs 0 0 Q (F0 m 2 ls []) := by
    intro  n
    induction n with
    | zero => intro x2 x3 v_nights v_waited H locs ls hP hD hS hl hf; exact nomatch hf
    | succ n ih =>
      intro x2 x3 v_nights v_waited H locs ls hP hD hS hl hf
      have hf : f_Scene_pass_2_b  (f_Scene_pass_2  v_p1_count v_p1_kinds v_p1_patiences n) v_p1_count v_p1_kinds v_p1_patiences x2 x3 v_nights v_waited = some res := hf
      generalize f_Scene_pass_2  v_p1_count v_p1_kinds v_p1_patiences n = back_2 at ih hf
      have K_2 := ih
      unfold f_Scene_pass_2_b at hf
      refine lv_iload_n hx hb d_Scene_pass_2 rfl (lv_at hl 3 rfl) ?_
      refine lv_iconst (v := 5) hx hb d_Scene_pass_3 (by decide) ?_
      refine lv_icmp_ge (tgt := 113) hx hb d_Scene_pass_4 (by decide) (fun c1 => ?_) (fun c1 => ?_)
      · have hf := o_pos c1 hf
        refine lv_aload_n hx hb d_Scene_pass_113 rfl (lv_at hl 0 rfl) ?_
        refine lv_dup hx hb d_Scene_pass_114 rfl ?_
        refine gf_Scene_18 hC hP 0 rfl rfl d_Scene_pass_115 ?_
        refine lv_iconst (v := 1) hx hb d_Scene_pass_118 (by decide) ?_
        refine lv_iadd hx hb d_Scene_pass_119 ?_
        refine pf_Scene_18 hC hP hD hS 0 rfl (Nat.le_of_ble_eq_true rfl) d_Scene_pass_120 (fun H locs hP hD hS => ?_)
        have hP : va_P D classes (cs_Scene_pass cI cZ a_p0 a_waited a_p1 a_p1_kinds a_p1_patiences z_off z_p1_layers z_p1_wanted (v_nights + 1) v_waited v_p1_count v_p1_kinds v_p1_patiences) H := hP
        have hD : va_D A (cs_Scene_pass cI cZ a_p0 a_waited a_p1 a_p1_kinds a_p1_patiences z_off z_p1_layers z_p1_wanted (v_nights + 1) v_waited v_p1_count v_p1_kinds v_p1_patiences) := hD
        have hr := Option.some.inj hf
        exact RET _ _ _ _ _ (congrArg (fun r : Int32 × (Nat → Int32) => (cs_Scene_pass cI cZ a_p0 a_waited a_p1 a_p1_kinds a_p1_patiences z_off z_p1_layers z_p1_wanted r.1 r.2 v_p1_count v_p1_kinds v_p1_patiences)) hr) hP hD hS d_Scene_pass_123
      · have hf := o_neg c1 hf
        refine lv_iload_n hx hb d_Scene_pass_7 rfl (lv_at hl 2 rfl) ?_
        refine lv_iload_n hx hb d_Scene_pass_8 rfl (lv_at hl 3 rfl) ?_
        refine lv_ishr hx hb d_Scene_pass_9 ?_
        refine lv_iconst (v := 1) hx hb d_Scene_pass_10 (by decide) ?_
        refine lv_iand hx hb d_Scene_pass_11 ?_
        refine lv_iconst (v := 1) hx hb d_Scene_pass_12 (by decide) ?_
        refine lv_icmp_ne (tgt := 20) hx hb d_Scene_pass_13 (by decide) (fun c2 => ?_) (fun c2 => ?_)
        · have hf := o_neg c2 hf
          refine lv_iconst (v := 0) hx hb d_Scene_pass_20 (by decide) ?_
          exact B_21 back_2 K_2 x2 x3 0 v_nights v_waited _ _ _ hP hD hS (lv_sub hl [0, 1, 2, 3] rfl) hf
        · have hf := o_pos c2 hf
          refine lv_iconst (v := 1) hx hb d_Scene_pass_16 (by decide) ?_
          refine lv_goto (tgt := 21) hx hb d_Scene_pass_17 (by decide) ?_
          exact B_21 back_2 K_2 x2 x3 1 v_nights v_waited _ _ _ hP hD hS (lv_sub hl [0, 1, 2, 3] rfl) hf
  unfold f_Scene_pass at hf
  have E : ∀ (H : Heap) (locs : List Loc), va_P D classes (cs_Scene_pass cI cZ a_p0 a_waited a_p1 a_p1_kinds a_p1_patiences z_off z_p1_layers z_p1_wanted v_nights v_waited v_p1_count v_p1_kinds v_p1_patiences) H → va_S A s.heap H locs → W p l e (rm_ 1 (40 * 1)) s m args below meth c H locs 0 0 Q (F0 m 0 ls []) := by
    intro H locs hP hS
    refine lv_iconst (v := 0) hx hb d_Scene_pass_0 (by decide) ?_
    refine lv_istore_n (lv' := [(3, .int 0), (0, .ref a_p0), (1, .ref a_p1), (2, .int i2)]) hx hb d_Scene_pass_1 rfl hl (by decide) rfl (fun ls hl => ?_)
    exact B_2 300 i2 0 v_nights v_waited _ _ _ hP hD hS (lv_sub hl [1, 2, 3, 0] rfl) hf
  exact E _ _ hP hS
