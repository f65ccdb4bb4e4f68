section LAW
variable {p : Program} {l : Launch} {e : Env} {s : State} {m : MethodId} {args : Array Value} {below : List Frame} {meth : Method} {c : Code} {D : va_G} {cI cZ : ClassId} {A : Nat → Prop} {Q : State → Prop} {b L : Nat} {xs : Nat → Int32} {K : Nat} {a : Nat → Nat} {v : PRv} {u : PMv} {H : Heap} {locs : List Loc} {ls : Array Slot} {i : Nat}

set_option maxHeartbeats 4000000 in
set_option maxRecDepth 100000 in
theorem law_head (hC : Cx p s m args meth c code 4 R_Law D cI cZ) (hA : ∀ q, s.heap.size ≤ q → A q) (hX : va_X b L xs s s.heap) (hbl : b < s.heap.size) (hbA : ¬ A b) (hL : L ≤ 320) (END : ∀ (H : Heap) (locs : List Loc) (ls : Array Slot), va_S A s.heap H locs → W p l e room_1 s m args below meth c H locs 39 824 Q (F0 m 960 ls [])) (hK5 : 5 * K ≤ L) (hI : Inv K v u) (hP : va_P D classes (Wd cI cZ a v u) H) (hD : va_D A (Wd cI cZ a v u)) (hS : va_S A s.heap H locs) (hl : lv_has ls 4 [(3, .int (nI (5 * K))), (0, .ref b), (1, .ref (a 0)), (2, .ref (a 22))]) (next : 5 * K + 5 ≤ L → ∀ (v : PRv) (u : PMv) (H : Heap) (locs : List Loc) (ls : Array Slot), Inv (K + 1) v u → va_P D classes (Wd cI cZ a v u) H → va_D A (Wd cI cZ a v u) → va_S A s.heap H locs → lv_has ls 4 [(3, .int (nI (5 * (K + 1)))), (0, .ref b), (1, .ref (a 0)), (2, .ref (a 22))] → W p l e room_1 s m args below meth c H locs 39 824 Q (F0 m 18 ls [])) : W p l e room_1 s m args below meth c H locs 39 824 Q (F0 m 18 ls []) := by
  obtain ⟨hx, hb, hml, hown, hts, hlk, hKK⟩ := id hC
  have hK : K < 2 ^ 20 := by omega
  have hc0 : (Int32.ofNat L - 5).toInt = (L : Int) - 5 := pk_sub_toInt (a := L) (b := 5) (by omega) (by omega)
  have hc1 : (nI (5 * K)).toInt = ((5 * K : Nat) : Int) := nI_toInt (by omega)
  refine lv_iload_n hx hb d_Law_law_18 rfl (lv_at hl 0 rfl) ?_
  refine lv_aload_n hx hb d_Law_law_19 rfl (lv_at hl 1 rfl) ?_
  refine va_slen hx hb hX hbl hbA hS d_Law_law_20 ?_
  refine lv_iconst (v := 5) hx hb d_Law_law_21 (by decide) ?_
  refine lv_isub hx hb d_Law_law_22 ?_
  refine lv_icmp_gt (tgt := 960) hx hb d_Law_law_23 (by decide) (fun _ => END H locs ls hS) (fun cg => ?_)
  have hi : 5 * K + 5 ≤ L := by
    have h1 : ¬ (Int32.ofNat L - 5 < nI (5 * K)) := cg
    rw [Int32.lt_iff_toInt_lt, hc0, hc1] at h1
    omega
  have BACK : ∀ (v : PRv) (u : PMv) (H : Heap) (locs : List Loc), Inv (K + 1) v u → va_P D classes (Wd cI cZ a v u) H → va_D A (Wd cI cZ a v u) → va_S A s.heap H locs → W p l e room_1 s m args below meth c H locs 39 824 Q (F0 m 954 ls []) := by
    intro v u H locs hI hP hD hS
    refine lv_iinc (v := nI (5 * K) + 5) (lv' := [(3, .int (nI (5 * K) + 5)), (0, .ref b), (1, .ref (a 0)), (2, .ref (a 22))]) hx hb d_Law_law_954 hl (k := 0) rfl (rfl) (by decide) rfl (fun ls hl => ?_)
    refine lv_goto (tgt := 18) hx hb d_Law_law_957 (by decide) ?_
    have e5 : nI (5 * K) + 5 = nI (5 * (K + 1)) := nI_add (5 * K) 5
    rw [e5] at hl
    exact next hi v u H locs ls hI hP hD hS hl
  refine lv_aload_n hx hb d_Law_law_26 rfl (lv_at hl 1 rfl) ?_
  refine lv_iload_n hx hb d_Law_law_27 rfl (lv_at hl 0 rfl) ?_
  refine r_scr (q := 5 * K) hC hX hbl hbA hS rfl (by omega) hL d_Law_law_28 ?_
  refine lv_bipush (v := 31) hx hb d_Law_law_29 (by decide) ?_
  refine lv_iand hx hb d_Law_law_31 ?_
  refine lv_topi (fun x ex => ?_)
  by_cases hr : 0 ≤ x.toInt ∧ x.toInt ≤ 28
  · obtain ⟨j, hj, e, e2⟩ := i_nI hr.1
    have hj29 : j < 29 := by omega
    have h29 : j = 0 ∨ j = 1 ∨ j = 2 ∨ j = 3 ∨ j = 4 ∨ j = 5 ∨ j = 6 ∨ j = 7 ∨ j = 8 ∨ j = 9 ∨ j = 10 ∨ j = 11 ∨ j = 12 ∨ j = 13 ∨ j = 14 ∨ j = 15 ∨ j = 16 ∨ j = 17 ∨ j = 18 ∨ j = 19 ∨ j = 20 ∨ j = 21 ∨ j = 22 ∨ j = 23 ∨ j = 24 ∨ j = 25 ∨ j = 26 ∨ j = 27 ∨ j = 28 := by omega
    rcases h29 with rfl | rfl | rfl | rfl | rfl | rfl | rfl | rfl | rfl | rfl | rfl | rfl | rfl | rfl | rfl | rfl | rfl | rfl | rfl | rfl | rfl | rfl | rfl | rfl | rfl | rfl | rfl | rfl | rfl
    · exact lv_tableIn (off := 132) (tgt := 164) hx hb d_Law_law_32 (by omega) (by omega) (by rw [e2]; rfl) (by decide) (case_0 (i := 5 * K) hC hA hX hbl hbA hL hK hI hP hD hS hi hl BACK)
    · exact lv_tableIn (off := 155) (tgt := 187) hx hb d_Law_law_32 (by omega) (by omega) (by rw [e2]; rfl) (by decide) (case_1 (i := 5 * K) hC hA hX hbl hbA hL hK hI hP hD hS hi hl BACK)
    · exact lv_tableIn (off := 168) (tgt := 200) hx hb d_Law_law_32 (by omega) (by omega) (by rw [e2]; rfl) (by decide) (case_2 (i := 5 * K) hC hA hX hbl hbA hL hK hI hP hD hS hi hl BACK)
    · exact lv_tableIn (off := 181) (tgt := 213) hx hb d_Law_law_32 (by omega) (by omega) (by rw [e2]; rfl) (by decide) (case_3 (i := 5 * K) hC hA hX hbl hbA hL hK hI hP hD hS hi hl BACK)
    · exact lv_tableIn (off := 194) (tgt := 226) hx hb d_Law_law_32 (by omega) (by omega) (by rw [e2]; rfl) (by decide) (case_4 (i := 5 * K) hC hA hX hbl hbA hL hK hI hP hD hS hi hl BACK)
    · exact lv_tableIn (off := 217) (tgt := 249) hx hb d_Law_law_32 (by omega) (by omega) (by rw [e2]; rfl) (by decide) (case_5 (i := 5 * K) hC hA hX hbl hbA hL hK hI hP hD hS hi hl BACK)
    · exact lv_tableIn (off := 250) (tgt := 282) hx hb d_Law_law_32 (by omega) (by omega) (by rw [e2]; rfl) (by decide) (case_6 (i := 5 * K) hC hA hX hbl hbA hL hK hI hP hD hS hi hl BACK)
    · exact lv_tableIn (off := 283) (tgt := 315) hx hb d_Law_law_32 (by omega) (by omega) (by rw [e2]; rfl) (by decide) (case_7 (i := 5 * K) hC hA hX hbl hbA hL hK hI hP hD hS hi hl BACK)
    · exact lv_tableIn (off := 296) (tgt := 328) hx hb d_Law_law_32 (by omega) (by omega) (by rw [e2]; rfl) (by decide) (case_8 (i := 5 * K) hC hA hX hbl hbA hL hK hI hP hD hS hi hl BACK)
    · exact lv_tableIn (off := 319) (tgt := 351) hx hb d_Law_law_32 (by omega) (by omega) (by rw [e2]; rfl) (by decide) (case_9 (i := 5 * K) hC hA hX hbl hbA hL hK hI hP hD hS hi hl BACK)
    · exact lv_tableIn (off := 342) (tgt := 374) hx hb d_Law_law_32 (by omega) (by omega) (by rw [e2]; rfl) (by decide) (case_10 (i := 5 * K) hC hA hX hbl hbA hL hK hI hP hD hS hi hl BACK)
    · exact lv_tableIn (off := 355) (tgt := 387) hx hb d_Law_law_32 (by omega) (by omega) (by rw [e2]; rfl) (by decide) (case_11 (i := 5 * K) hC hA hX hbl hbA hL hK hI hP hD hS hi hl BACK)
    · exact lv_tableIn (off := 368) (tgt := 400) hx hb d_Law_law_32 (by omega) (by omega) (by rw [e2]; rfl) (by decide) (case_12 (i := 5 * K) hC hA hX hbl hbA hL hK hI hP hD hS hi hl BACK)
    · exact lv_tableIn (off := 391) (tgt := 423) hx hb d_Law_law_32 (by omega) (by omega) (by rw [e2]; rfl) (by decide) (case_13 (i := 5 * K) hC hA hX hbl hbA hL hK hI hP hD hS hi hl BACK)
    · exact lv_tableIn (off := 414) (tgt := 446) hx hb d_Law_law_32 (by omega) (by omega) (by rw [e2]; rfl) (by decide) (case_14 (i := 5 * K) hC hA hX hbl hbA hL hK hI hP hD hS hi hl BACK)
    · exact lv_tableIn (off := 447) (tgt := 479) hx hb d_Law_law_32 (by omega) (by omega) (by rw [e2]; rfl) (by decide) (case_15 (i := 5 * K) hC hA hX hbl hbA hL hK hI hP hD hS hi hl BACK)
    · exact lv_tableIn (off := 470) (tgt := 502) hx hb d_Law_law_32 (by omega) (by omega) (by rw [e2]; rfl) (by decide) (case_16 (i := 5 * K) hC hA hX hbl hbA hL hK hI hP hD hS hi hl BACK)
    · exact lv_tableIn (off := 493) (tgt := 525) hx hb d_Law_law_32 (by omega) (by omega) (by rw [e2]; rfl) (by decide) (case_17 (i := 5 * K) hC hA hX hbl hbA hL hK hI hP hD hS hi hl BACK)
    · exact lv_tableIn (off := 516) (tgt := 548) hx hb d_Law_law_32 (by omega) (by omega) (by rw [e2]; rfl) (by decide) (case_18 (i := 5 * K) hC hA hX hbl hbA hL hK hI hP hD hS hi hl BACK)
    · exact lv_tableIn (off := 549) (tgt := 581) hx hb d_Law_law_32 (by omega) (by omega) (by rw [e2]; rfl) (by decide) (case_19 (i := 5 * K) hC hA hX hbl hbA hL hK hI hP hD hS hi hl BACK)
    · exact lv_tableIn (off := 598) (tgt := 630) hx hb d_Law_law_32 (by omega) (by omega) (by rw [e2]; rfl) (by decide) (case_20 (i := 5 * K) hC hA hX hbl hbA hL hK hI hP hD hS hi hl BACK)
    · exact lv_tableIn (off := 651) (tgt := 683) hx hb d_Law_law_32 (by omega) (by omega) (by rw [e2]; rfl) (by decide) (case_21 (i := 5 * K) hC hA hX hbl hbA hL hK hI hP hD hS hi hl BACK)
    · exact lv_tableIn (off := 664) (tgt := 696) hx hb d_Law_law_32 (by omega) (by omega) (by rw [e2]; rfl) (by decide) (case_22 (i := 5 * K) hC hA hX hbl hbA hL hK hI hP hD hS hi hl BACK)
    · exact lv_tableIn (off := 697) (tgt := 729) hx hb d_Law_law_32 (by omega) (by omega) (by rw [e2]; rfl) (by decide) (case_23 (i := 5 * K) hC hA hX hbl hbA hL hK hI hP hD hS hi hl BACK)
    · exact lv_tableIn (off := 740) (tgt := 772) hx hb d_Law_law_32 (by omega) (by omega) (by rw [e2]; rfl) (by decide) (case_24 (i := 5 * K) hC hA hX hbl hbA hL hK hI hP hD hS hi hl BACK)
    · exact lv_tableIn (off := 799) (tgt := 831) hx hb d_Law_law_32 (by omega) (by omega) (by rw [e2]; rfl) (by decide) (case_25 (i := 5 * K) hC hA hX hbl hbA hL hK hI hP hD hS hi hl BACK)
    · exact lv_tableIn (off := 853) (tgt := 885) hx hb d_Law_law_32 (by omega) (by omega) (by rw [e2]; rfl) (by decide) (case_26 (i := 5 * K) hC hA hX hbl hbA hL hK hI hP hD hS hi hl BACK)
    · exact lv_tableIn (off := 876) (tgt := 908) hx hb d_Law_law_32 (by omega) (by omega) (by rw [e2]; rfl) (by decide) (case_27 (i := 5 * K) hC hA hX hbl hbA hL hK hI hP hD hS hi hl BACK)
    · exact lv_tableIn (off := 899) (tgt := 931) hx hb d_Law_law_32 (by omega) (by omega) (by rw [e2]; rfl) (by decide) (case_28 (i := 5 * K) hC hA hX hbl hbA hL hK hI hP hD hS hi hl BACK)
  · exact lv_tableOut (tgt := 954) hx hb d_Law_law_32 (by omega) (by decide) (BACK v u H locs (Inv_mono (Nat.le_succ K) hI) hP hD hS)
theorem law_loop (hC : Cx p s m args meth c code 4 R_Law D cI cZ) (hA : ∀ q, s.heap.size ≤ q → A q) (hX : va_X b L xs s s.heap) (hbl : b < s.heap.size) (hbA : ¬ A b) (hL : L ≤ 320) (END : ∀ (H : Heap) (locs : List Loc) (ls : Array Slot), va_S A s.heap H locs → W p l e room_1 s m args below meth c H locs 39 824 Q (F0 m 960 ls [])) : ∀ (N K : Nat) (v : PRv) (u : PMv) (H : Heap) (locs : List Loc) (ls : Array Slot), L ≤ N + 5 * K → 5 * K ≤ L → Inv K v u → va_P D classes (Wd cI cZ a v u) H → va_D A (Wd cI cZ a v u) → va_S A s.heap H locs → lv_has ls 4 [(3, .int (nI (5 * K))), (0, .ref b), (1, .ref (a 0)), (2, .ref (a 22))] → W p l e room_1 s m args below meth c H locs 39 824 Q (F0 m 18 ls []) := by
  intro N
  induction N with
  | zero =>
    intro K v u H locs ls hN hK hI hP hD hS hl
    exact law_head hC hA hX hbl hbA hL END hK hI hP hD hS hl (fun h => by omega)
  | succ N ih =>
    intro K v u H locs ls hN hK hI hP hD hS hl
    exact law_head hC hA hX hbl hbA hL END hK hI hP hD hS hl (fun h v u H locs ls hI hP hD hS hl => ih (K + 1) v u H locs ls (by omega) (by omega) hI hP hD hS hl)
end LAW
