/-! slots; what is told about -/
def SlotsR (K n : Nat) (kp : Int32) (sc kt isK : Nat → Int32) : Prop :=
  ∃ b, b < 4 ∧ kp = nI b ∧ ∀ i, i < 2 → isK i = (if b.testBit i then 1 else 0) ∧ (b.testBit i = true → SceneR K n (fun f => sc (10 * i + f)) (fun c => sc (10 * i + 4 + c)) (sc (10 * i + 9)) (fun j => kt (16 * i + j)))
theorem SlotsR_mono {K K' n : Nat} {kp : Int32} {sc kt isK : Nat → Int32} (hk : K ≤ K') (h : SlotsR K n kp sc kt isK) : SlotsR K' n kp sc kt isK := by
  obtain ⟨b, h1, h2, h3⟩ := h
  exact ⟨b, h1, h2, fun i hi => ⟨(h3 i hi).1, fun e => SceneR_mono hk ((h3 i hi).2 e)⟩⟩
theorem slot2 (i : Int32) : (∃ k, k < 2 ∧ i = nI k) ∨ ((i < 0 ∨ ¬ i < 0 ∧ ¬ i < 2) ∧ f_PM_in i.toInt64 0 1 = some 0) := by
  by_cases h : 0 ≤ i.toInt ∧ i.toInt ≤ 1
  · obtain ⟨j, hj, e, e2⟩ := i_nI h.1
    exact Or.inl ⟨j, by omega, e⟩
  · refine Or.inr ⟨?_, ?_⟩
    · by_cases c1 : i < 0
      · exact Or.inl c1
      · refine Or.inr ⟨c1, ?_⟩
        rw [i_lt (k := 2) (y := 2) (by omega) rfl]; rw [i_lt0] at c1; omega
    · rw [in_lit (x := i) (lo := 0) (hi := 1) (by omega) (by omega) (a := 0) (b := 1) rfl rfl, if_neg (show ¬ (((0 : Nat) : Int) ≤ i.toInt ∧ i.toInt ≤ ((1 : Nat) : Int)) from h)]
theorem in01 : ∀ k, k < 2 → f_PM_in (nI k).toInt64 0 1 = some 1 := by decide +kernel
theorem keep26 {i : Nat} (hi : i < 2) {pg kt isK : Nat → Int32} {t : Int32} : f_PM_keep_26 pg 300 (nI i) 0 t kt isK = some (pg 15, t, putN (16 * i) 16 pg kt, isK) := by
  have h0 : f_PM_keep_26 pg 300 (nI i) 0 t kt isK = f_PM_keep_26 pg 300 (nI i) (nI 0) t (putN (16 * i) 0 pg kt) isK := by rw [putN_0]; rfl
  rw [h0]
  refine lpS (fun N k => f_PM_keep_26 pg N (nI i) (nI k) t (putN (16 * i) k pg kt) isK) 16 _ ?_ ?_ 300 0 (by omega) (by omega)
  · intro N k hk
    show f_PM_keep_26_b _ _ _ _ _ _ _ = _
    unfold f_PM_keep_26_b
    rw [if_neg (show ¬ (16 : Int32) ≤ nI k from nI_ge (b := 16) hk (by omega)), rd_n hk (by omega), show 16 * nI i + nI k = nI (16 * i + k) by rw [show (16 : Int32) = nI 16 from rfl, pk_mul, nI_add]]
    simp only [Option.bind_some]
    rw [wr_n (by omega) (by omega), putN_s rfl]
    simp only [Option.bind_some, nI_1]
  · intro N
    show f_PM_keep_26_b _ _ _ _ _ _ _ = _
    unfold f_PM_keep_26_b
    rw [if_pos (show (16 : Int32) ≤ nI 16 by decide), show (15 : Int32) = nI 15 from rfl, rd_n (by omega) (by omega)]
    rfl
theorem or4 : ∀ b, b < 4 → ∀ i, i < 2 → (b ||| 2 ^ i) < 4 ∧ nI b ||| slI 1 (nI i) = nI (b ||| 2 ^ i) ∧ (b ||| 2 ^ i).testBit i = true ∧ ∀ j, j < 2 → j ≠ i → (b ||| 2 ^ i).testBit j = b.testBit j := by decide +kernel
theorem op_keep {K n : Nat} {off w pg sc kt isK : Nat → Int32} {nt th kp : Int32} (hS : SceneR K n off w nt pg) (hQ : SlotsR K n kp sc kt isK) (i : Int32) :
    ∃ r r', f_PR_keep i nt off w 2 kp sc = some r ∧ f_PM_keep i pg th kt isK = some r' ∧ r.1 = r'.1 ∧ SlotsR K n r.2.1 r.2.2 r'.2.2.1 r'.2.2.2 := by
  obtain ⟨b, hb, rfl, hq⟩ := hQ
  unfold f_PR_keep f_PR_keep_9 f_PM_keep
  rcases slot2 i with ⟨k, hk, rfl⟩ | ⟨h1, h2⟩
  · obtain ⟨cells', e1, e2, e3, e4, e5⟩ := put_eq (i := k) (N := 20) (P := 2) hk rfl (by omega) (nt := nt) (off := off) (w := w) (cells := sc)
    rw [if_neg (nI_pos (by omega)), if_pos (show nI k < 2 from nI_lt (b := 2) hk (by omega)), in01 k hk, show (2 : Int32) = nI 2 from rfl, e1]
    simp only [Option.bind_some, show ¬ ((1 : Int32) = 0) by decide, if_false]
    rw [show wr isK 2 (nI k) 1 = some (upd isK k 1) from wr_n hk (by omega)]
    simp only [Option.bind_some]
    rw [keep26 hk]
    obtain ⟨o1, o2, o3, o4⟩ := or4 b hb k hk
    have hS0 := hS
    obtain ⟨-, -, L, -, hp⟩ := hS0
    refine ⟨_, _, rfl, rfl, hp.2.2.1.symm, b ||| 2 ^ k, o1, o2, fun j hj => ?_⟩
    dsimp only
    by_cases hjk : j = k
    · subst hjk
      rw [up_s, o3]
      exact ⟨rfl, fun _ => SceneR_cong hS e2 e3 e4 (fun i hi => putN_in hi)⟩
    · rw [up_n hjk, o4 j hj hjk]
      refine ⟨(hq j hj).1, fun h => SceneR_cong ((hq j hj).2 h) (fun f hf => e5 _ (by omega)) (fun c hc => e5 _ (by omega)) (e5 _ (by omega)) (fun i hi => putN_out (by omega))⟩
  · rw [h2]
    rcases h1 with h1 | ⟨h1, h3⟩
    · rw [if_pos h1]; exact ⟨_, _, rfl, rfl, rfl, b, hb, rfl, hq⟩
    · rw [if_neg h1, if_neg h3]; exact ⟨_, _, rfl, rfl, rfl, b, hb, rfl, hq⟩
theorem again31 {i : Nat} (hi : i < 2) {pg kt isK : Nat → Int32} {t ac : Int32} : f_PM_again_31 kt isK 300 (nI i) 0 t ac pg = some (kt (16 * i + 15), t, 0, putN 0 16 (fun j => kt (16 * i + j)) pg) := by
  have h0 : f_PM_again_31 kt isK 300 (nI i) 0 t ac pg = f_PM_again_31 kt isK 300 (nI i) (nI 0) t ac (putN 0 0 (fun j => kt (16 * i + j)) pg) := by rw [putN_0]; rfl
  rw [h0]
  refine lpS (fun N k => f_PM_again_31 kt isK N (nI i) (nI k) t ac (putN 0 k (fun j => kt (16 * i + j)) pg)) 16 _ ?_ ?_ 300 0 (by omega) (by omega)
  · intro N k hk
    show f_PM_again_31_b _ _ _ _ _ _ _ _ = _
    unfold f_PM_again_31_b
    rw [if_neg (show ¬ (16 : Int32) ≤ nI k from nI_ge (b := 16) hk (by omega)), show 16 * nI i + nI k = nI (16 * i + k) by rw [show (16 : Int32) = nI 16 from rfl, pk_mul, nI_add], rd_n (by omega) (by omega)]
    simp only [Option.bind_some]
    rw [wr_n (by omega) (by omega)]
    have h1 := putN_s (d := 0) (k := k) (src := fun j => kt (16 * i + j)) (s0 := pg) (x := kt (16 * i + k)) rfl
    rw [Nat.zero_add] at h1
    rw [h1]
    simp only [Option.bind_some, nI_1]
  · intro N
    show f_PM_again_31_b _ _ _ _ _ _ _ _ = _
    unfold f_PM_again_31_b
    rw [if_pos (show (16 : Int32) ≤ nI 16 by decide), show (15 : Int32) = nI 15 from rfl, rd_n (by omega) (by omega), putN_z (by omega)]
    rfl
theorem op_again {K n a : Nat} (ha : a ≤ 14) {off w pg sc kt isK cells book : Nat → Int32} {nt th kp : Int32} (hS : SceneR K n off w nt pg) (hQ : SlotsR K n kp sc kt isK) (hA : ActsR K n a cells book) (i : Int32) :
    ∃ r r', f_PR_again i kp 2 sc (nI a) nt off w = some r ∧ f_PM_again i kt isK th (nI a) pg = some r' ∧ r.1 = r'.1 ∧ ∃ a', a' ≤ 14 ∧ r.2.1 = nI a' ∧ r'.2.2.1 = nI a' ∧ SceneR K n r.2.2.2.1 r.2.2.2.2 r.2.2.1 r'.2.2.2 ∧ ActsR K n a' cells book := by
  obtain ⟨b, hb, rfl, hq⟩ := hQ
  unfold f_PR_again f_PR_again_9 f_PM_again
  rcases slot2 i with ⟨k, hk, rfl⟩ | ⟨h1, h2⟩
  · rw [if_neg (nI_pos (by omega)), if_pos (show nI k < 2 from nI_lt (b := 2) hk (by omega)), in01 k hk, sm_bit b (by omega) k (by omega)]
    simp only [Option.bind_some, show ¬ ((1 : Int32) = 0) by decide, if_false]
    rw [rd_n hk (by omega), (hq k hk).1]
    simp only [Option.bind_some]
    cases hbit : b.testBit k
    · exact ⟨_, _, rfl, rfl, rfl, a, ha, rfl, rfl, hS, hA⟩
    · obtain ⟨r, e1, e2, e3, e4⟩ := take_eq (i := k) (N := 20) (P := 2) hk rfl (by omega) (nt := nt) (off := off) (w := w) (cells := sc)
      simp only [if_true, show ¬ ((1 : Int32) = 0) by decide, if_false]
      rw [show (2 : Int32) = nI 2 from rfl, e1, again31 hk]
      have h5 := (hq k hk).2 hbit
      have h6 : kt (16 * k + 15) = sc (10 * k + 9) := by
        obtain ⟨-, -, L, -, hp⟩ := h5
        exact hp.2.2.1
      refine ⟨_, _, rfl, rfl, ?_, 0, by omega, rfl, rfl, ?_, fun i hi => by omega⟩
      · dsimp only; rw [e2, h6]
      · exact SceneR_cong h5 e3 e4 e2 (fun j hj => putN_z (src := fun j => kt (16 * k + j)) hj)
  · rw [h2]
    rcases h1 with h1 | ⟨h1, h3⟩
    · rw [if_pos h1]; exact ⟨_, _, rfl, rfl, rfl, a, ha, rfl, rfl, hS, hA⟩
    · rw [if_neg h1, if_neg h3]; exact ⟨_, _, rfl, rfl, rfl, a, ha, rfl, rfl, hS, hA⟩
/-! about -/
theorem figN_app : ∀ (A : List Nat) (c a : Nat), figN (A ++ [c]) a = 10 * figN A a + c + 1
  | [], c, a => rfl
  | d :: t, c, a => by
    show figN (t ++ [c]) _ = 10 * figN t _ + c + 1
    exact figN_app t c _
theorem op_about {K n a q m : Nat} {lay kinds pats wanted layer cab off w pg shC shM : Nat → Int32} {nt th : Int32} (hH : HallR n lay kinds pats wanted layer cab) (hS : SceneR K n off w nt pg) (i : Int32) :
    ∃ r r', f_PR_about i (nI a) (nI m) (nI n) lay kinds wanted nt off w (nI q) shC = some r ∧ f_PM_about i (nI m) (nI n) (nI a) (nI q) layer cab pg th shM = some r' ∧ r.1 = r'.1 := by
  obtain ⟨ho, hw, L, hL, hp⟩ := hS
  have hlen := rank_len hL
  have hM : f_PM_about i (nI m) (nI n) (nI a) (nI q) layer cab pg th shM = (if i = 0 then some (nI n, 0, fillN (shN lay off) shM 4) else if i = 1 then some (nI (maskN (fun c => !(w c == -9)) 5), 0, fillN (shN lay off) shM 4) else if i = 2 then some (nI (figN L 0), 0, fillN (shN lay off) shM 4) else if i = 3 then some (nI (maskN (HC lay kinds wanted off) n), 0, fillN (shN lay off) shM 4) else if i = 4 then some (nt, 0, fillN (shN lay off) shM 4) else if i = 5 then some (nI a, 0, fillN (shN lay off) shM 4) else if i = 6 then some (nI q, 0, fillN (shN lay off) shM 4) else if i = 7 then some (nI m, 0, fillN (shN lay off) shM 4) else some (-2, 0, fillN (shN lay off) shM 4)) := by
    unfold f_PM_about
    rw [layShown_eq (fun j hj => (hH.2.1 j hj).1) ho hp.1]
    simp only [Option.bind_some]
    show f_PM_about_17 (nI m) (nI n) (nI a) (nI q) layer cab pg 300 i (nI (figN (L.take 0) 0)) (nI 0) 0 (fillN (shN lay off) shM 4) = _
    refine lpS (fun N k => f_PM_about_17 (nI m) (nI n) (nI a) (nI q) layer cab pg N i (nI (figN (L.take k) 0)) (nI k) 0 (fillN (shN lay off) shM 4)) L.length _ ?_ ?_ 300 0 (by omega) (by omega)
    · intro N k hk
      show f_PM_about_17_b _ _ _ _ _ _ _ _ _ _ _ _ _ = _
      unfold f_PM_about_17_b
      rw [show (4 : Int32) = nI 4 from rfl, rd_n (by omega) (by omega), hp.2.2.2.1]
      simp only [Option.bind_some]
      rw [if_neg (nI_ge hk (by omega)), show (5 : Int32) = nI 5 from rfl, nI_add, rd_n (by omega) (by omega), hp.2.2.2.2.1 k hk]
      simp only [Option.bind_some]
      rw [tk_1 hk, figN_app, show 10 * nI (figN (L.take k) 0) + nI (L.getD k 0) + 1 = nI (10 * figN (L.take k) 0 + L.getD k 0 + 1) by rw [show (10 : Int32) = nI 10 from rfl, pk_mul, nI_add, nI_1], nI_1]
    · intro N
      show f_PM_about_17_b _ _ _ _ _ _ _ _ _ _ _ _ _ = _
      unfold f_PM_about_17_b
      rw [show rd pg 16 4 = some (pg 4) from rd_n (k := 4) (by omega) (by omega), hp.2.2.2.1]
      simp only [Option.bind_some]
      rw [if_pos (Int32.le_refl _), List.take_length, waitsOf_eq hp.2.1, called15 hH ho (fun f hf => fillN_in hf), show rd pg 16 15 = some (pg 15) from rd_n (k := 15) (by omega) (by omega), hp.2.2.1]
      simp only [Option.bind_some]
  rw [hM]
  unfold f_PR_about
  rw [waiting_eq, rank_eq hL, hailedIn_eq hH.1 ho]
  simp only [Option.bind_some]
  by_cases h0 : i = 0
  · rw [if_pos h0, if_pos h0]; exact ⟨_, _, rfl, rfl, rfl⟩
  rw [if_neg h0, if_neg h0]
  by_cases h1 : i = 1
  · rw [if_pos h1, if_pos h1]; exact ⟨_, _, rfl, rfl, rfl⟩
  rw [if_neg h1, if_neg h1]
  by_cases h2 : i = 2
  · rw [if_pos h2, if_pos h2]; exact ⟨_, _, rfl, rfl, rfl⟩
  rw [if_neg h2, if_neg h2]
  by_cases h3 : i = 3
  · rw [if_pos h3, if_pos h3]; exact ⟨_, _, rfl, rfl, rfl⟩
  rw [if_neg h3, if_neg h3]
  by_cases h4 : i = 4
  · rw [if_pos h4, if_pos h4]; exact ⟨_, _, rfl, rfl, rfl⟩
  rw [if_neg h4, if_neg h4]
  by_cases h5 : i = 5
  · rw [if_pos h5, if_pos h5]; exact ⟨_, _, rfl, rfl, rfl⟩
  rw [if_neg h5, if_neg h5]
  by_cases h6 : i = 6
  · rw [if_pos h6, if_pos h6]; exact ⟨_, _, rfl, rfl, rfl⟩
  rw [if_neg h6, if_neg h6]
  by_cases h7 : i = 7
  · rw [if_pos h7, if_pos h7]; exact ⟨_, _, rfl, rfl, rfl⟩
  rw [if_neg h7, if_neg h7]
  exact ⟨_, _, rfl, rfl, rfl⟩
