/-! what is tried: doings, nights to come, years -/
theorem noF_all : ∀ f, f < 10 → f_PM_noFinger (nI f) = some (if f < 4 then 0 else 1) := by decide +kernel
theorem isF_all : ∀ f, f < 10 → f_PR_isFinger (nI f) = some (if f < 4 then 1 else 0) := by decide +kernel
theorem in12 : ∀ k, k < 10 → f_PM_in (nI k).toInt64 1 2 = some (if 1 ≤ k ∧ k ≤ 2 then 1 else 0) := by decide +kernel
theorem does54_no {x y n : Int32} {k f : Nat} (hk : k < 10) (hf : f < 10) {layer cab tr sh : Nat → Int32} (h : 4 ≤ f ∨ ¬ (1 ≤ k ∧ k ≤ 2)) : f_PM_does_54 n layer cab (nI k) (nI f) tr sh = some (0, tr, sh) := by
  unfold f_PM_does_54 f_PM_does_94
  rw [noF_all f hf, Option.bind_some]
  by_cases h4 : f < 4
  · rw [if_pos h4, if_pos rfl, in12 k hk, Option.bind_some, if_neg (show ¬ (1 ≤ k ∧ k ≤ 2) by omega), if_pos rfl]
  · rw [if_neg h4, if_neg (show ¬ ((1 : Int32) = 0) by decide)]
theorem att_R {K n : Nat} (hK : K < 2 ^ 30) {lay kinds pats wanted layer cab off w tr shC shM : Nat → Int32} {nt : Int32} (hH : HallR n lay kinds pats wanted layer cab) (hS : SceneR K n off w nt tr) {two : Nat} (h2 : two < 100) :
    ∃ r r', f_PR_attempt (nI (two / 10)) (nI (two % 10)) (nI n) lay kinds pats wanted shC nt off w = some r ∧ f_PM_does (nI two) (nI n) layer cab tr shM = some r' ∧ r.1 = r'.1 ∧ SceneR (K + 1) n r.2.2.2.1 r.2.2.2.2 r.2.2.1 r'.2.1 := by
  have hS1 := SceneR_mono (Nat.le_succ K) hS
  obtain ⟨k, f, hk, hf, rfl⟩ : ∃ k f, k < 10 ∧ f < 10 ∧ two = 10 * k + f := ⟨two / 10, two % 10, by omega, by omega, by omega⟩
  have e1 : (10 * k + f) / 10 = k := by omega
  have e2 : (10 * k + f) % 10 = f := by omega
  have d1 : nI (10 * k + f) / 10 = nI k := by rw [show nI (10 * k + f) / 10 = nI ((10 * k + f) / 10) from pk_div (d := 10) (by omega) (by omega) (by omega), e1]
  have d2 : rmI (nI (10 * k + f)) 10 = nI f := by rw [show rmI (nI (10 * k + f)) 10 = nI ((10 * k + f) % 10) from pk_rem (d := 10) (by omega) (by omega) (by omega), e2]
  rw [e1, e2]
  by_cases hz : k = 0 ∧ f = 0
  · obtain ⟨rfl, rfl⟩ := hz
    obtain ⟨r, e3, e4⟩ := night_R (sh := shM) hK hH hS
    unfold f_PR_attempt f_PR_attempt_41 f_PR_attempt_50 f_PM_does
    rw [if_pos (show nI 0 = 0 from rfl), if_pos (show nI 0 = 0 from rfl), prPass_eq hH.1 hS.1 hS.2.1.2, Option.bind_some, if_pos (show nI 0 = 0 from rfl), if_pos (show nI (10 * 0 + 0) = 0 from rfl), e3, Option.bind_some]
    exact ⟨_, _, rfl, rfl, rfl, e4⟩
  · have hne0 : ¬ nI (10 * k + f) = 0 := nI_ne0 (by omega) (by omega)
    by_cases h30 : k = 3 ∧ f = 0
    · obtain ⟨rfl, rfl⟩ := h30
      have hS0 := hS
      obtain ⟨ho, hw, L, hL, hp⟩ := hS
      unfold f_PR_attempt f_PR_attempt_112 f_PR_attempt_113 f_PM_does
      rw [if_neg (show ¬ nI 3 = 0 by decide), if_neg (show ¬ nI 3 = 1 by decide), if_neg (show ¬ nI 3 = 2 by decide), if_pos (show nI 3 = 3 from rfl), if_pos (show nI 0 = 0 from rfl), first_eq hL, Option.bind_some, if_neg hne0, if_pos (show nI (10 * 3 + 0) = 30 from rfl), show rd tr 16 4 = some (tr 4) from rd_n (k := 4) (by omega) (by omega), hp.2.2.2.1, Option.bind_some, d1, d2]
      cases L with
      | nil =>
        rw [show hdI [] = -9 from rfl, letGo_m9, Option.bind_some, if_pos (show nI ([] : List Nat).length ≤ 0 by decide), does54_no (x := 0) (y := 0) hk hf (by omega)]
        exact ⟨_, _, rfl, rfl, rfl, hS1⟩
      | cons b t =>
        have hb := (hL.2.1 b).mp List.mem_cons_self
        obtain ⟨pg', e3, e4⟩ := send_R ho hw hL hp
        have hp5 : tr 5 = nI b := hp.2.2.2.2.1 0 (by simp)
        have hlen := rank_len hL
        rw [show hdI (b :: t) = nI b from rfl, letGo_n hb.1 hb.2, Option.bind_some, if_neg (show ¬ nI (b :: t).length ≤ 0 from nI_ge (a := 0) (by simp) (by omega)), show rd tr 16 5 = some (tr 5) from rd_n (k := 5) (by omega) (by omega), hp5, Option.bind_some, e3, Option.bind_some]
        exact ⟨_, _, rfl, rfl, rfl, SceneR_mono (Nat.le_succ K) e4⟩
    · have hdoes : f_PM_does (nI (10 * k + f)) (nI n) layer cab tr shM = f_PM_does_54 (nI n) layer cab (nI k) (nI f) tr shM := by
        unfold f_PM_does
        rw [if_neg hne0, if_neg (show ¬ nI (10 * k + f) = 30 from fun e => h30 (by have := nI_inj (b := 30) (by omega) (by omega) e; omega)), d1, d2]
      rw [hdoes]
      by_cases hok : (1 ≤ k ∧ k ≤ 2) ∧ f < 4
      · obtain ⟨⟨hk1, hk2⟩, hf4⟩ := hok
        obtain ⟨x, hx, hxe⟩ := hS.1 f hf4
        have hpf : tr f = nI x := by obtain ⟨-, -, L, -, hp⟩ := hS; rw [hp.1 f hf4, hxe]
        unfold f_PR_attempt f_PR_attempt_70 f_PR_attempt_71 f_PR_attempt_91 f_PR_attempt_92 f_PM_does_54 f_PM_does_91 f_PM_does_94 f_PM_does_115
        have hn1 : f_PM_noFinger (nI f) = some 0 := by rw [noF_all f hf, if_pos hf4]
        have hn2 : f_PR_isFinger (nI f) = some 1 := by rw [isF_all f hf, if_pos hf4]
        have hn3 : f_PM_in (nI k).toInt64 1 2 = some 1 := by rw [in12 k hk, if_pos ⟨hk1, hk2⟩]
        rw [hn1, hn2, hn3, takeO hf4 hx hxe, putO hf4 hx hxe, show (0 : Int32) + nI f = nI f by rw [show (0 : Int32) = nI 0 from rfl, nI_add]; congr 1; omega, rd_n (by omega) (by omega), hpf]
        simp only [Option.bind_some]
        rcases (show k = 1 ∨ k = 2 by omega) with rfl | rfl
        · rcases (show x = 0 ∨ x = 1 ∨ x = 2 by omega) with rfl | rfl | rfl
          · have := scene_off hf4 (x := 1) (by omega) hS1
            rw [show wr tr 16 (nI f) (nI 0 + 1) = some (upd tr f (nI 1)) from wr_n (by omega) (by omega)]
            exact ⟨_, _, rfl, rfl, rfl, this⟩
          · have := scene_off hf4 (x := 2) (by omega) hS1
            rw [show wr tr 16 (nI f) (nI 1 + 1) = some (upd tr f (nI 2)) from wr_n (by omega) (by omega)]
            exact ⟨_, _, rfl, rfl, rfl, this⟩
          · exact ⟨_, _, rfl, rfl, rfl, hS1⟩
        · rcases (show x = 0 ∨ x = 1 ∨ x = 2 by omega) with rfl | rfl | rfl
          · exact ⟨_, _, rfl, rfl, rfl, hS1⟩
          · have := scene_off hf4 (x := 0) (by omega) hS1
            rw [show wr tr 16 (nI f) (nI 1 + (-1)) = some (upd tr f (nI 0)) from wr_n (by omega) (by omega)]
            exact ⟨_, _, rfl, rfl, rfl, this⟩
          · have := scene_off hf4 (x := 1) (by omega) hS1
            rw [show wr tr 16 (nI f) (nI 2 + (-1)) = some (upd tr f (nI 1)) from wr_n (by omega) (by omega)]
            exact ⟨_, _, rfl, rfl, rfl, this⟩
      · rw [does54_no (x := 0) (y := 0) hk hf (by omega)]
        refine ⟨(0, shC, nt, off, w), (0, tr, shM), ?_, rfl, rfl, hS1⟩
        unfold f_PR_attempt f_PR_attempt_41 f_PR_attempt_50 f_PR_attempt_70 f_PR_attempt_71 f_PR_attempt_91 f_PR_attempt_92 f_PR_attempt_112 f_PR_attempt_113
        rw [isF_all f hf, Option.bind_some]
        by_cases h0 : k = 0
        · subst h0
          have hf0 : ¬ nI f = 0 := nI_ne0 (by omega) (by omega)
          rw [if_pos (show nI 0 = 0 from rfl), if_neg hf0, if_neg hf0]; rfl
        · rw [if_neg (show ¬ nI k = 0 from nI_ne0 (by omega) (by omega))]
          by_cases h1 : k = 1
          · subst h1
            rw [if_pos (show nI 1 = 1 from rfl), if_neg (show ¬ f < 4 by omega), if_pos (show (0 : Int32) = 0 from rfl)]; rfl
          · rw [if_neg (show ¬ nI k = 1 from fun e => h1 (nI_inj (b := 1) (by omega) (by omega) e))]
            by_cases h2 : k = 2
            · subst h2
              rw [if_pos (show nI 2 = 2 from rfl), if_neg (show ¬ f < 4 by omega), Option.bind_some, if_pos (show (0 : Int32) = 0 from rfl)]; rfl
            · rw [if_neg (show ¬ nI k = 2 from fun e => h2 (nI_inj (b := 2) (by omega) (by omega) e))]
              by_cases h3 : k = 3
              · subst h3
                have hf0 : ¬ nI f = 0 := nI_ne0 (by omega) (by omega)
                rw [if_pos (show nI 3 = 3 from rfl), if_neg hf0]; rfl
              · rw [if_neg (show ¬ nI k = 3 from fun e => h3 (nI_inj (b := 3) (by omega) (by omega) e))]
/-- the trials, begun from the scene that is -/
theorem begin_R {K n : Nat} {off w pg toff tw tr : Nat → Int32} {nt tnt : Int32} (hS : SceneR K n off w nt pg) : ∃ r, f_Scene_copy nt off w tnt toff tw = some r ∧ SceneR K n r.2.1 r.2.2 r.1 (putN 0 16 pg tr) := by
  obtain ⟨r, e1, e2, e3, e4⟩ := copy_eq (nt := nt) (off := off) (w := w) (nt2 := tnt) (off2 := toff) (w2 := tw)
  exact ⟨r, e1, SceneR_cong hS e3 e4 e2 (fun j hj => putN_z hj)⟩
theorem op_givesUp {K n : Nat} (hK : K < 2 ^ 20) {lay kinds pats wanted layer cab off w pg shC shM toff tw tr : Nat → Int32} {nt tnt th : Int32} (hH : HallR n lay kinds pats wanted layer cab) (hS : SceneR K n off w nt pg) (i : Int32) :
    ∃ r r', f_PR_givesUp i (nI n) lay kinds pats wanted nt off w tnt toff tw shC = some r ∧ f_PM_givesUp i (nI n) layer cab pg th tr shM = some r' ∧ r.1 = r'.1 := by
  have hn := hH.1
  unfold f_PR_givesUp f_PM_givesUp
  rcases cabm hn i with ⟨c, hc, rfl, e1, e2⟩ | ⟨e1, e2, -⟩
  · have hpc : pg (10 + c) = w c := by obtain ⟨-, -, L, -, hp⟩ := hS; exact hp.2.1 c (by omega)
    rw [e1, e2, Option.bind_some, Option.bind_some, if_neg (show ¬ ((1 : Int32) = 0) by decide), if_pos (show (0 : Int32) = 0 from rfl), waited_n (by omega), show (10 : Int32) + nI c = nI (10 + c) by rw [show (10 : Int32) = nI 10 from rfl, nI_add], rd_n (by omega) (by omega), hpc, Option.bind_some, Option.bind_some]
    by_cases hwc : w c = -9
    · rw [if_pos hwc, if_pos hwc]; exact ⟨_, _, rfl, rfl, rfl⟩
    · rw [if_neg hwc, if_neg hwc]
      obtain ⟨r, e3, e4⟩ := begin_R (toff := toff) (tw := tw) (tr := tr) (tnt := tnt) hS
      rw [e3, Option.bind_some, begin_eq, Option.bind_some]
      refine lpJ (fun N k (s : Int32 × (Nat → Int32) × (Nat → Int32) × (Nat → Int32)) => f_PR_givesUp_42 (nI n) lay kinds pats wanted nt off w N (nI c) (nI k) s.1 s.2.1 s.2.2.1 s.2.2.2)
        (fun N k (t : (Nat → Int32) × (Nat → Int32)) => f_PM_givesUp_38 (nI n) layer cab pg N (nI c) (nI k) 0 t.1 t.2)
        (fun k s t => SceneR (K + k) n s.2.1 s.2.2.1 s.1 t.1) 21 (fun r r' => r.1 = r'.1) ?_ ?_ 20 1 (r.1, r.2.1, r.2.2, shC) (putN 0 16 pg tr, shM) 300 300 rfl (by omega) (by omega) (SceneR_mono (Nat.le_succ K) e4)
      · rintro N M k ⟨s1, s2, s3, s4⟩ ⟨t1, t2⟩ hk hI
        dsimp only at hI ⊢
        obtain ⟨r2, h1, h2⟩ := night_R (sh := t2) (by omega) hH hI
        have hpc2 : r2.2 (10 + c) = fillN (nwC n (HC lay kinds wanted s2) kinds pats s3) s3 5 c := by obtain ⟨-, -, L, -, hp⟩ := h2; exact hp.2.1 c (by omega)
        have hC : f_PR_givesUp_42 (nI n) lay kinds pats wanted nt off w (N + 1) (nI c) (nI k) s1 s2 s3 s4 = if fillN (nwC n (HC lay kinds wanted s2) kinds pats s3) s3 5 c = -9 then some (nI k, s1 + 1, s2, fillN (nwC n (HC lay kinds wanted s2) kinds pats s3) s3 5, fillN (shN lay s2) s4 4) else f_PR_givesUp_42 (nI n) lay kinds pats wanted nt off w N (nI c) (nI (k + 1)) (s1 + 1) s2 (fillN (nwC n (HC lay kinds wanted s2) kinds pats s3) s3 5) (fillN (shN lay s2) s4 4) := by
          show f_PR_givesUp_42_b _ _ _ _ _ _ _ _ _ _ _ _ _ _ _ = _
          unfold f_PR_givesUp_42_b
          rw [if_neg (show ¬ (20 : Int32) < nI k from nI_nlt (a := 20) (by omega) (by omega)), prPass_eq hn hI.1 hI.2.1.2, Option.bind_some]
          dsimp only
          rw [waited_n (by omega), Option.bind_some, nI_1]
        have hM : f_PM_givesUp_38 (nI n) layer cab pg (M + 1) (nI c) (nI k) 0 t1 t2 = if fillN (nwC n (HC lay kinds wanted s2) kinds pats s3) s3 5 c = -9 then some (nI k, 0, r2.2, r2.1) else f_PM_givesUp_38 (nI n) layer cab pg M (nI c) (nI (k + 1)) 0 r2.2 r2.1 := by
          show f_PM_givesUp_38_b _ _ _ _ _ _ _ _ _ _ = _
          unfold f_PM_givesUp_38_b
          rw [if_neg (show ¬ (20 : Int32) < nI k from nI_nlt (a := 20) (by omega) (by omega)), h1, Option.bind_some, show (10 : Int32) + nI c = nI (10 + c) by rw [show (10 : Int32) = nI 10 from rfl, nI_add], rd_n (by omega) (by omega), hpc2, Option.bind_some, nI_1]
        by_cases hg : fillN (nwC n (HC lay kinds wanted s2) kinds pats s3) s3 5 c = -9
        · rw [if_pos hg] at hC hM
          exact Or.inr ⟨_, _, hC, hM, rfl⟩
        · rw [if_neg hg] at hC hM
          exact Or.inl ⟨(s1 + 1, s2, fillN (nwC n (HC lay kinds wanted s2) kinds pats s3) s3 5, fillN (shN lay s2) s4 4), (r2.2, r2.1), h2, hC, hM⟩
      · rintro N M ⟨s1, s2, s3, s4⟩ ⟨t1, t2⟩ hI
        refine ⟨(-9, s1, s2, s3, s4), (-9, 0, t1, t2), ?_, ?_, rfl⟩
        · show f_PR_givesUp_42_b _ _ _ _ _ _ _ _ _ _ _ _ _ _ _ = _
          unfold f_PR_givesUp_42_b
          rw [if_pos (show (20 : Int32) < nI 21 by decide)]
        · show f_PM_givesUp_38_b _ _ _ _ _ _ _ _ _ _ = _
          unfold f_PM_givesUp_38_b
          rw [if_pos (show (20 : Int32) < nI 21 by decide)]
  · rw [e1, e2]; exact ⟨_, _, rfl, rfl, rfl⟩
theorem size_R {K n : Nat} {off w pg : Nat → Int32} {nt : Int32} (hS : SceneR K n off w nt pg) : pg 4 = nI (pop5 (maskN (fun c => !(w c == -9)) 5)) := by
  obtain ⟨-, -, L, hL, hp⟩ := hS
  rw [hp.2.2.2.1, rank_pop hL]
theorem op_longest {K n : Nat} (hK : K < 2 ^ 20) {lay kinds pats wanted layer cab off w pg shC shM toff tw tr : Nat → Int32} {nt tnt th : Int32} (hH : HallR n lay kinds pats wanted layer cab) (hS : SceneR K n off w nt pg) (i : Int32) :
    ∃ r r', f_PR_longest i (nI n) lay kinds pats wanted nt off w tnt toff tw shC = some r ∧ f_PM_longest i (nI n) layer cab pg th tr shM = some r' ∧ r.1 = r'.1 := by
  have hn := hH.1
  unfold f_PR_longest f_PR_longest_10 f_PM_longest
  rw [in_lit (x := i) (lo := 0) (hi := 30) (by omega) (by omega) (a := 0) (b := 30) rfl rfl, Option.bind_some]
  by_cases h : 0 ≤ i.toInt ∧ i.toInt ≤ 30
  · obtain ⟨m, hm, rfl, hm2⟩ := i_nI h.1
    rw [if_pos (show ((0 : Nat) : Int) ≤ (nI m).toInt ∧ (nI m).toInt ≤ ((30 : Nat) : Int) from h), if_neg (show ¬ ((1 : Int32) = 0) by decide), if_neg (nI_pos hm), if_pos (show nI m ≤ 30 from nI_le (b := 30) (by omega) (by omega))]
    obtain ⟨r, e3, e4⟩ := begin_R (toff := toff) (tw := tw) (tr := tr) (tnt := tnt) hS
    rw [e3, Option.bind_some, begin_eq, Option.bind_some, waiting_eq, Option.bind_some, bc5 _ (mask5 _ (by omega)), Option.bind_some, show rd (putN 0 16 pg tr) 16 4 = some (putN 0 16 pg tr 4) from rd_n (k := 4) (by omega) (by omega), size_R e4, Option.bind_some]
    have hpp := pop5_le _ (mask5 (fun c => !(r.2.2 c == -9)) (n := 5) (by omega))
    generalize pop5 (maskN (fun c => !(r.2.2 c == -9)) 5) = q at hpp ⊢
    refine lpJ (fun N k (s : Int32 × Int32 × (Nat → Int32) × (Nat → Int32) × (Nat → Int32)) => f_PR_longest_37 (nI n) lay kinds pats wanted nt off w N (nI m) s.1 (nI (k + 1)) s.2.1 s.2.2.1 s.2.2.2.1 s.2.2.2.2)
      (fun N k (t : Int32 × (Nat → Int32) × (Nat → Int32)) => f_PM_longest_33 (nI n) layer cab pg N (nI m) t.1 (nI k) 0 t.2.1 t.2.2)
      (fun k s t => SceneR (K + k) n s.2.2.1 s.2.2.2.1 s.2.1 t.2.1 ∧ s.1 = t.1 ∧ ∃ q, q ≤ 5 ∧ s.1 = nI q) m (fun r r' => r.1 = r'.1) ?_ ?_ m 0 (nI q, r.1, r.2.1, r.2.2, shC) (nI q, putN 0 16 pg tr, shM) 300 300 (by omega) (by omega) (by omega) ⟨e4, rfl, q, hpp, rfl⟩
    · rintro N M k ⟨s0, s1, s2, s3, s4⟩ ⟨t0, t1, t2⟩ hk ⟨hI, h0, q, hq, hq2⟩
      dsimp only at hI h0 hq2 ⊢
      subst h0; subst hq2
      obtain ⟨r2, h1, h2⟩ := night_R (sh := t2) (by omega) hH hI
      have hsz := size_R h2
      have hpp := pop5_le _ (mask5 (fun c => !(fillN (nwC n (HC lay kinds wanted s2) kinds pats s3) s3 5 c == -9)) (n := 5) (by omega))
      refine Or.inl ⟨(nI (max q (pop5 (maskN (fun c => !(fillN (nwC n (HC lay kinds wanted s2) kinds pats s3) s3 5 c == -9)) 5))), s1 + 1, s2, fillN (nwC n (HC lay kinds wanted s2) kinds pats s3) s3 5, fillN (shN lay s2) s4 4), (nI (max q (pop5 (maskN (fun c => !(fillN (nwC n (HC lay kinds wanted s2) kinds pats s3) s3 5 c == -9)) 5))), r2.2, r2.1), ⟨h2, rfl, _, by omega, rfl⟩, ?_, ?_⟩
      · show f_PR_longest_37_b _ _ _ _ _ _ _ _ _ _ _ _ _ _ _ _ = _
        unfold f_PR_longest_37_b
        rw [if_neg (nI_nlt (by omega) (by omega)), prPass_eq hn hI.1 hI.2.1.2, Option.bind_some]
        dsimp only
        rw [waiting_eq, Option.bind_some, bc5 _ (mask5 _ (by omega)), Option.bind_some, nI_1]
        generalize pop5 (maskN (fun c => !(fillN (nwC n (HC lay kinds wanted s2) kinds pats s3) s3 5 c == -9)) 5) = y at hpp ⊢
        have : mxI (nI q) (nI y) = nI (max q y) := by
          show (if nI q < nI y then nI y else nI q) = _
          by_cases hlt : q < y
          · rw [if_pos (nI_lt hlt (by omega))]; congr 1; omega
          · rw [if_neg (nI_nlt (by omega) (by omega))]; congr 1; omega
        rw [this]
      · show f_PM_longest_33_b _ _ _ _ _ _ _ _ _ _ _ = _
        unfold f_PM_longest_33_b f_PM_longest_66
        rw [if_neg (nI_ge hk (by omega)), h1, Option.bind_some, show rd r2.2 16 4 = some (r2.2 4) from rd_n (k := 4) (by omega) (by omega), hsz, Option.bind_some, Option.bind_some, nI_1]
        generalize pop5 (maskN (fun c => !(fillN (nwC n (HC lay kinds wanted s2) kinds pats s3) s3 5 c == -9)) 5) = y at hpp ⊢
        by_cases hle : y ≤ q
        · rw [if_pos (nI_le hle (by omega)), Nat.max_eq_left hle]
        · rw [if_neg (nI_ge (by omega) (by omega)), Nat.max_eq_right (by omega)]
    · rintro N M ⟨s0, s1, s2, s3, s4⟩ ⟨t0, t1, t2⟩ ⟨hI, h0, q, hq, hq2⟩
      refine ⟨(s0, s1, s2, s3, s4), (t0, 0, t1, t2), ?_, ?_, h0⟩
      · show f_PR_longest_37_b _ _ _ _ _ _ _ _ _ _ _ _ _ _ _ _ = _
        unfold f_PR_longest_37_b
        rw [if_pos (nI_lt (by omega) (by omega))]
      · show f_PM_longest_33_b _ _ _ _ _ _ _ _ _ _ _ = _
        unfold f_PM_longest_33_b
        rw [if_pos (Int32.le_refl _)]
  · rw [if_neg (show ¬ (((0 : Nat) : Int) ≤ i.toInt ∧ i.toInt ≤ ((30 : Nat) : Int)) from h), if_pos (show (0 : Int32) = 0 from rfl)]
    refine ⟨(-2, tnt, toff, tw, shC), _, ?_, rfl, rfl⟩
    by_cases c1 : i < 0
    · rw [if_pos c1]
    · rw [if_neg c1, if_neg]
      rw [i_le (k := 30) (y := 30) (by omega) rfl]; rw [i_lt0] at c1; omega
