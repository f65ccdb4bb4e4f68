/-! doings judged, years -/
theorem pow100 : ∀ e, e < 5 → f_PM_power 100 (nI e) = some (nI (100 ^ e)) := by decide +kernel
theorem dA {m q j : Nat} (hm : m ≤ 4) (hq : q < 2 ^ 31) (hj : j ≤ m) : f_PR_doingAt_7 300 (nI m) (nI q) (nI j) = some (nI (q / 100 ^ (m - j))) := by
  obtain ⟨e, rfl⟩ : ∃ e, m = j + e := ⟨m - j, by omega⟩
  have h0 : f_PR_doingAt_7 300 (nI (j + e)) (nI q) (nI j) = f_PR_doingAt_7 300 (nI (j + e)) (nI (q / 100 ^ 0)) (nI (j + 0)) := by rw [Nat.pow_zero, Nat.div_one, Nat.add_zero]
  rw [h0, show j + e - j = e by omega]
  refine lpS (fun N k => f_PR_doingAt_7 N (nI (j + e)) (nI (q / 100 ^ k)) (nI (j + k))) e _ ?_ ?_ 300 0 (by omega) (by omega)
  · intro N k hk
    show f_PR_doingAt_7_b _ _ _ _ = _
    unfold f_PR_doingAt_7_b
    have hle : q / 100 ^ k ≤ q := Nat.div_le_self _ _
    rw [if_neg (nI_ge (by omega) (by omega)), show nI (q / 100 ^ k) / 100 = nI (q / 100 ^ k / 100) from pk_div (d := 100) (by omega) (by omega) (by omega), nI_1, Nat.div_div_eq_div_mul, ← Nat.pow_succ]
    rfl
  · intro N
    show f_PR_doingAt_7_b _ _ _ _ = _
    unfold f_PR_doingAt_7_b
    rw [if_pos (Int32.le_refl _)]
theorem p100 : ∀ e, e < 5 → 0 < 100 ^ e ∧ 100 ^ e ≤ 100000000 := by decide +kernel
theorem op_judge {K n : Nat} (hK : K < 2 ^ 20) {lay kinds pats wanted layer cab off w pg shC shM toff tw tr : Nat → Int32} {nt tnt th : Int32} (hH : HallR n lay kinds pats wanted layer cab) (hS : SceneR K n off w nt pg) (i j : Int32) :
    ∃ r r', f_PR_judge i j (nI n) lay kinds pats wanted nt off w tnt toff tw shC = some r ∧ f_PM_judge i j (nI n) layer cab pg th tr shM = some r' ∧ r.1 = r'.1 := by
  unfold f_PR_judge f_PR_judge_23 f_PM_judge f_PM_judge_35
  rw [in_lit (x := i) (lo := 1) (hi := 4) (by omega) (by omega) (a := 1) (b := 4) rfl rfl, Option.bind_some]
  by_cases h : 1 ≤ i.toInt ∧ i.toInt ≤ 4
  · obtain ⟨m, hm, rfl, hm2⟩ := i_nI (x := i) (by omega)
    obtain ⟨hp1, hp2⟩ := p100 m (by omega)
    rw [if_pos (show ((1 : Nat) : Int) ≤ (nI m).toInt ∧ (nI m).toInt ≤ ((4 : Nat) : Int) from h), if_neg (show ¬ ((1 : Int32) = 0) by decide), if_neg (show ¬ nI m < 1 from nI_nlt (b := 1) (by omega) (by omega)), if_neg (show ¬ (4 : Int32) < nI m from nI_nlt (a := 4) (by omega) (by omega)), pow100 m (by omega), Option.bind_some, show nI (100 ^ m) - 1 = nI (100 ^ m - 1) from pk_sub (b := 1) (by omega), in_lit (x := j) (lo := 0) (hi := 100 ^ m - 1) (by omega) (by omega) (a := 0) rfl rfl, Option.bind_some]
    by_cases hj : 0 ≤ j.toInt ∧ j.toInt ≤ ((100 ^ m - 1 : Nat) : Int)
    · obtain ⟨q, hq, rfl, hq2⟩ := i_nI hj.1
      rw [if_pos (show ((0 : Nat) : Int) ≤ (nI q).toInt ∧ (nI q).toInt ≤ ((100 ^ m - 1 : Nat) : Int) from hj), if_neg (show ¬ ((1 : Int32) = 0) by decide), if_neg (nI_pos hq)]
      have hd : f_PR_doingAt (nI m) (nI q) (-1) = some 0 := by
        unfold f_PR_doingAt
        have := dA (m := m) (q := q) (j := 0) (by omega) hq (by omega)
        rw [show (-1 : Int32) + 1 = nI 0 by decide, this, Nat.sub_zero, Nat.div_eq_of_lt (by omega)]; rfl
      rw [hd, Option.bind_some, if_pos (show (0 : Int32) = 0 from rfl)]
      obtain ⟨r, e3, e4⟩ := begin_R (toff := toff) (tw := tw) (tr := tr) (tnt := tnt) hS
      rw [e3, Option.bind_some, begin_eq, Option.bind_some]
      refine lpJ (fun N k (s : Int32 × (Nat → Int32) × (Nat → Int32) × (Nat → Int32)) => f_PR_judge_39 (nI n) lay kinds pats wanted nt off w N (nI m) (nI q) (nI k) s.1 s.2.1 s.2.2.1 s.2.2.2)
        (fun N k (t : (Nat → Int32) × (Nat → Int32)) => f_PM_judge_44 (nI n) layer cab pg N (nI m) (nI q) (nI k) 0 t.1 t.2)
        (fun k s t => SceneR (K + k) n s.2.1 s.2.2.1 s.1 t.1) m (fun r r' => r.1 = r'.1) ?_ ?_ m 0 (r.1, r.2.1, r.2.2, shC) (putN 0 16 pg tr, shM) 300 300 (by omega) (by omega) (by omega) e4
      · rintro N M k ⟨s1, s2, s3, s4⟩ ⟨t1, t2⟩ hk hI
        dsimp only at hI ⊢
        have hp3 := p100 (m - 1 - k) (by omega)
        have hle : q / 100 ^ (m - 1 - k) ≤ q := Nat.div_le_self _ _
        have htw : q / 100 ^ (m - 1 - k) % 100 < 100 := Nat.mod_lt _ (by omega)
        obtain ⟨r1, r2, h1, h2, h3, h4⟩ := att_R (shC := s4) (shM := t2) (by omega) hH hI htw
        have hC : f_PR_judge_39 (nI n) lay kinds pats wanted nt off w (N + 1) (nI m) (nI q) (nI k) s1 s2 s3 s4 = if r1.1 = 0 then some (nI k, r1.2.2.1, r1.2.2.2.1, r1.2.2.2.2, r1.2.1) else f_PR_judge_39 (nI n) lay kinds pats wanted nt off w N (nI m) (nI q) (nI (k + 1)) r1.2.2.1 r1.2.2.2.1 r1.2.2.2.2 r1.2.1 := by
          show f_PR_judge_39_b _ _ _ _ _ _ _ _ _ _ _ _ _ _ _ _ = _
          unfold f_PR_judge_39_b f_PR_doingAt
          have hda := dA (m := m) (q := q) (j := k + 1) (by omega) hq (by omega)
          rw [if_neg (nI_ge hk (by omega)), nI_1, hda, Option.bind_some, show m - (k + 1) = m - 1 - k by omega, show rmI (nI (q / 100 ^ (m - 1 - k))) 100 = nI (q / 100 ^ (m - 1 - k) % 100) from pk_rem (d := 100) (by omega) (by omega) (by omega)]
          rw [show nI (q / 100 ^ (m - 1 - k) % 100) / 10 = nI (q / 100 ^ (m - 1 - k) % 100 / 10) from pk_div (d := 10) (by omega) (by omega) (by omega), show rmI (nI (q / 100 ^ (m - 1 - k) % 100)) 10 = nI (q / 100 ^ (m - 1 - k) % 100 % 10) from pk_rem (d := 10) (by omega) (by omega) (by omega), h1, Option.bind_some]
        have hM : f_PM_judge_44 (nI n) layer cab pg (M + 1) (nI m) (nI q) (nI k) 0 t1 t2 = if r2.1 = 0 then some (nI k, 0, r2.2.1, r2.2.2) else f_PM_judge_44 (nI n) layer cab pg M (nI m) (nI q) (nI (k + 1)) 0 r2.2.1 r2.2.2 := by
          show f_PM_judge_44_b _ _ _ _ _ _ _ _ _ _ _ = _
          unfold f_PM_judge_44_b
          rw [if_neg (nI_ge hk (by omega)), show nI m - 1 = nI (m - 1) from pk_sub (b := 1) (by omega), pk_sub (by omega), pow100 _ (by omega), Option.bind_some, if_neg (nI_ne0 hp3.1 (by omega)), pk_div (by omega) hp3.1 (by omega), show rmI (nI (q / 100 ^ (m - 1 - k))) 100 = nI (q / 100 ^ (m - 1 - k) % 100) from pk_rem (d := 100) (by omega) (by omega) (by omega), h2, Option.bind_some, nI_1]
        rw [← h3] at hM
        by_cases hg : r1.1 = 0
        · rw [if_pos hg] at hC hM
          exact Or.inr ⟨_, _, hC, hM, rfl⟩
        · rw [if_neg hg] at hC hM
          exact Or.inl ⟨(r1.2.2.1, r1.2.2.2.1, r1.2.2.2.2, r1.2.1), (r2.2.1, r2.2.2), h4, hC, hM⟩
      · rintro N M ⟨s1, s2, s3, s4⟩ ⟨t1, t2⟩ hI
        refine ⟨(-9, s1, s2, s3, s4), (-9, 0, t1, t2), ?_, ?_, rfl⟩
        · show f_PR_judge_39_b _ _ _ _ _ _ _ _ _ _ _ _ _ _ _ _ = _
          unfold f_PR_judge_39_b
          rw [if_pos (Int32.le_refl _)]
        · show f_PM_judge_44_b _ _ _ _ _ _ _ _ _ _ _ = _
          unfold f_PM_judge_44_b
          rw [if_pos (Int32.le_refl _)]
    · rw [if_neg (show ¬ (((0 : Nat) : Int) ≤ j.toInt ∧ j.toInt ≤ ((100 ^ m - 1 : Nat) : Int)) from hj), if_pos (show (0 : Int32) = 0 from rfl)]
      refine ⟨(-2, tnt, toff, tw, shC), _, ?_, rfl, rfl⟩
      by_cases c1 : j < 0
      · rw [if_pos c1]
      · rw [if_neg c1]
        rw [i_lt0] at c1
        obtain ⟨q, hq, rfl, hq2⟩ := i_nI (x := j) (by omega)
        have hge : 100 ^ m ≤ q := by omega
        have hd : f_PR_doingAt (nI m) (nI q) (-1) = some (nI (q / 100 ^ m)) := by
          unfold f_PR_doingAt
          have := dA (m := m) (q := q) (j := 0) (by omega) hq (by omega)
          rw [show (-1 : Int32) + 1 = nI 0 by decide, this, Nat.sub_zero]
        have hle : q / 100 ^ m ≤ q := Nat.div_le_self _ _
        rw [hd, Option.bind_some, if_neg (nI_ne0 (Nat.div_pos hge hp1) (by omega))]
  · rw [if_neg (show ¬ (((1 : Nat) : Int) ≤ i.toInt ∧ i.toInt ≤ ((4 : Nat) : Int)) from h), if_pos (show (0 : Int32) = 0 from rfl)]
    refine ⟨(-2, tnt, toff, tw, shC), _, ?_, rfl, rfl⟩
    by_cases c1 : i < 1
    · rw [if_pos c1]
    · have c2 : (4 : Int32) < i := by
        rw [i_lt (k := 1) (y := 1) (by omega) rfl] at c1
        rw [Int32.lt_iff_toInt_lt, show (4 : Int32).toInt = 4 by decide]; omega
      rw [if_neg c1, if_pos c2]
/-! years -/
theorem us33 (s : Int64) : ∃ y, y < 2 ^ 31 ∧ usL s 33 = lN y := by
  refine ⟨s.toBitVec.toNat / 2 ^ 33, by have := s.toBitVec.isLt; omega, ?_⟩
  apply Int64.toBitVec_inj.mp
  apply BitVec.eq_of_toNat_eq
  have hc : ((33 : Int32).toInt64.toUInt64 &&& Int64.toUInt64 63) = UInt64.ofNat 33 := by decide +kernel
  show (s.toUInt64 >>> ((33 : Int32).toInt64.toUInt64 &&& Int64.toUInt64 63)).toNat = (BitVec.ofNat 64 _).toNat
  rw [hc, UInt64.toNat_shiftRight]
  have h2 : s.toUInt64.toNat = s.toBitVec.toNat := rfl
  have h3 := s.toBitVec.isLt
  rw [h2, show (UInt64.ofNat 33).toNat % 64 = 33 by decide, Nat.shiftRight_eq_div_pow, BitVec.toNat_ofNat, Nat.mod_eq_of_lt (by omega)]
theorem drawn (s : Int64) : ∃ d, d < 12 ∧ Int64.toInt32 (rmL (usL s 33) 12) = nI d := by
  obtain ⟨y, hy, e⟩ := us33 s
  refine ⟨y % 12, Nat.mod_lt _ (by omega), ?_⟩
  rw [e, show rmL (lN y) 12 = lN (y % 12) from pk_lRem (b := 12) (by omega) (by omega) (by omega), lN_i]
theorem op_years {K n : Nat} (hK : K < 2 ^ 20) {lay kinds pats wanted layer cab off w pg shC shM toff tw tr : Nat → Int32} {nt tnt th : Int32} {sd : Int64} (hH : HallR n lay kinds pats wanted layer cab) (hS : SceneR K n off w nt pg) (i : Int32) :
    ∃ r r', f_PR_years i (nI n) lay kinds pats wanted nt off w sd tnt toff tw shC = some r ∧ f_PM_years i (nI n) layer cab pg th sd tr shM = some r' ∧ r.1 = r'.1 ∧ r.2.1 = r'.2.2.1 := by
  unfold f_PR_years f_PR_years_11 f_PM_years
  rw [in_lit (x := i) (lo := 1) (hi := 30) (by omega) (by omega) (a := 1) (b := 30) rfl rfl, Option.bind_some]
  by_cases h : 1 ≤ i.toInt ∧ i.toInt ≤ 30
  · obtain ⟨m, hm, rfl, hm2⟩ := i_nI (x := i) (by omega)
    rw [if_pos (show ((1 : Nat) : Int) ≤ (nI m).toInt ∧ (nI m).toInt ≤ ((30 : Nat) : Int) from h), if_neg (show ¬ ((1 : Int32) = 0) by decide), if_neg (show ¬ nI m < 1 from nI_nlt (b := 1) (by omega) (by omega)), if_pos (show nI m ≤ 30 from nI_le (b := 30) (by omega) (by omega))]
    obtain ⟨r, e3, e4⟩ := begin_R (toff := toff) (tw := tw) (tr := tr) (tnt := tnt) hS
    rw [e3, Option.bind_some, begin_eq, Option.bind_some]
    refine lpJ (fun N k (s : Int32 × Int64 × Int32 × (Nat → Int32) × (Nat → Int32) × (Nat → Int32)) => f_PR_years_29 (nI n) lay kinds pats wanted nt off w N (nI m) s.1 (nI k) s.2.1 s.2.2.1 s.2.2.2.1 s.2.2.2.2.1 s.2.2.2.2.2)
      (fun N k (t : Int32 × Int64 × (Nat → Int32) × (Nat → Int32)) => f_PM_years_28 (nI n) layer cab pg N (nI m) t.1 (nI k) 0 t.2.1 t.2.2.1 t.2.2.2)
      (fun k s t => SceneR (K + k) n s.2.2.2.1 s.2.2.2.2.1 s.2.2.1 t.2.2.1 ∧ s.1 = t.1 ∧ s.2.1 = t.2.1) m (fun r r' => r.1 = r'.1 ∧ r.2.1 = r'.2.2.1) ?_ ?_ m 0 (0, sd, r.1, r.2.1, r.2.2, shC) (0, sd, putN 0 16 pg tr, shM) 300 300 (by omega) (by omega) (by omega) ⟨e4, rfl, rfl⟩
    · rintro N M k ⟨s0, sd1, s1, s2, s3, s4⟩ ⟨t0, td, t1, t2⟩ hk ⟨hI, h0, hsd⟩
      dsimp only at hI h0 hsd ⊢
      subst h0; subst hsd
      obtain ⟨d, hd, hde⟩ := drawn (sd1 * 6364136223846793005 + 1442695040888963407)
      have htw : (if d < 4 then 10 + d else if d < 8 then 16 + d else 0) < 100 := by split <;> (try split) <;> omega
      obtain ⟨r1, r2, h1, h2, h3, h4⟩ := att_R (shC := s4) (shM := t2) (by omega) hH hI htw
      have hsz := size_R h4
      refine Or.inl ⟨(s0 + nI (pop5 (maskN (fun c => !(r1.2.2.2.2 c == -9)) 5)), sd1 * 6364136223846793005 + 1442695040888963407, r1.2.2.1, r1.2.2.2.1, r1.2.2.2.2, r1.2.1), (s0 + nI (pop5 (maskN (fun c => !(r1.2.2.2.2 c == -9)) 5)), sd1 * 6364136223846793005 + 1442695040888963407, r2.2.1, r2.2.2), ⟨h4, rfl, rfl⟩, ?_, ?_⟩
      · show f_PR_years_29_b _ _ _ _ _ _ _ _ _ _ _ _ _ _ _ _ _ = _
        unfold f_PR_years_29_b f_PR_years_86 f_PR_years_108
        rw [if_neg (nI_ge hk (by omega)), hde]
        generalize sd1 * 6364136223846793005 + 1442695040888963407 = sd2
        have key : ∀ x y : Int32, x = nI ((if d < 4 then 10 + d else if d < 8 then 16 + d else 0) / 10) → y = nI ((if d < 4 then 10 + d else if d < 8 then 16 + d else 0) % 10) → ((f_PR_attempt x y (nI n) lay kinds pats wanted s4 s1 s2 s3).bind fun r1 => (f_Scene_waiting r1.2.2.2.2).bind fun r3 => (f_Int_bitCount r3).bind fun r5 => f_PR_years_29 (nI n) lay kinds pats wanted nt off w N (nI m) (s0 + r5) (nI k + 1) sd2 r1.2.2.1 r1.2.2.2.1 r1.2.2.2.2 r1.2.1) = f_PR_years_29 (nI n) lay kinds pats wanted nt off w N (nI m) (s0 + nI (pop5 (maskN (fun c => !(r1.2.2.2.2 c == -9)) 5))) (nI (k + 1)) sd2 r1.2.2.1 r1.2.2.2.1 r1.2.2.2.2 r1.2.1 := by
          intro x y hx hy
          rw [hx, hy, h1, Option.bind_some, waiting_eq, Option.bind_some, bc5 _ (mask5 _ (by omega)), Option.bind_some, nI_1]
        by_cases h8 : 4 ≤ d
        · rw [if_pos (show (4 : Int32) ≤ nI d from nI_le (a := 4) h8 (by omega))]
          by_cases h12 : 8 ≤ d
          · rw [if_pos (show (8 : Int32) ≤ nI d from nI_le (a := 8) h12 (by omega)), if_pos (show (0 : Int32) = 0 from rfl)]
            exact key _ _ (by rw [if_neg (by omega), if_neg (by omega)]; rfl) (by rw [if_neg (by omega), if_neg (by omega)]; rfl)
          · rw [if_neg (show ¬ (8 : Int32) ≤ nI d from nI_ge (b := 8) (by omega) (by omega)), if_neg (show ¬ ((2 : Int32) = 0) by decide), show rmI (nI d) 4 = nI (d % 4) from pk_rem (d := 4) (by omega) (by omega) (by omega)]
            exact key _ _ (by rw [if_neg (by omega), if_pos (by omega), show (16 + d) / 10 = 2 by omega]; rfl) (by rw [if_neg (by omega), if_pos (by omega)]; congr 1; omega)
        · rw [if_neg (show ¬ (4 : Int32) ≤ nI d from nI_ge (b := 4) (by omega) (by omega)), if_neg (show ¬ ((1 : Int32) = 0) by decide), show rmI (nI d) 4 = nI (d % 4) from pk_rem (d := 4) (by omega) (by omega) (by omega)]
          exact key _ _ (by rw [if_pos (by omega), show (10 + d) / 10 = 1 by omega]; rfl) (by rw [if_pos (by omega)]; congr 1; omega)
      · show f_PM_years_28_b _ _ _ _ _ _ _ _ _ _ _ _ = _
        unfold f_PM_years_28_b f_PM_years_94
        rw [if_neg (nI_ge hk (by omega)), hde]
        generalize sd1 * 6364136223846793005 + 1442695040888963407 = sd2
        have key : ∀ x : Int32, x = nI (if d < 4 then 10 + d else if d < 8 then 16 + d else 0) → ((f_PM_does x (nI n) layer cab t1 t2).bind fun r1 => (rd r1.2.1 16 4).bind fun v3 => f_PM_years_28 (nI n) layer cab pg M (nI m) (s0 + v3) (nI k + 1) 0 sd2 r1.2.1 r1.2.2) = f_PM_years_28 (nI n) layer cab pg M (nI m) (s0 + nI (pop5 (maskN (fun c => !(r1.2.2.2.2 c == -9)) 5))) (nI (k + 1)) 0 sd2 r2.2.1 r2.2.2 := by
          intro x hx
          rw [hx, h2, Option.bind_some, show rd r2.2.1 16 4 = some (r2.2.1 4) from rd_n (k := 4) (by omega) (by omega), hsz, Option.bind_some, nI_1]
        by_cases h8 : 4 ≤ d
        · rw [if_pos (show (4 : Int32) ≤ nI d from nI_le (a := 4) h8 (by omega))]
          by_cases h12 : 8 ≤ d
          · rw [if_pos (show (8 : Int32) ≤ nI d from nI_le (a := 8) h12 (by omega))]
            exact key _ (by rw [if_neg (by omega), if_neg (by omega)]; rfl)
          · rw [if_neg (show ¬ (8 : Int32) ≤ nI d from nI_ge (b := 8) (by omega) (by omega))]
            exact key _ (by rw [if_neg (by omega), if_pos (by omega), show (16 : Int32) = nI 16 from rfl, nI_add])
        · rw [if_neg (show ¬ (4 : Int32) ≤ nI d from nI_ge (b := 4) (by omega) (by omega))]
          exact key _ (by rw [if_pos (by omega), show (10 : Int32) = nI 10 from rfl, nI_add])
    · rintro N M ⟨s0, sd1, s1, s2, s3, s4⟩ ⟨t0, td, t1, t2⟩ ⟨hI, h0, hsd⟩
      refine ⟨(s0, sd1, s1, s2, s3, s4), (t0, 0, td, t1, t2), ?_, ?_, h0, hsd⟩
      · show f_PR_years_29_b _ _ _ _ _ _ _ _ _ _ _ _ _ _ _ _ _ = _
        unfold f_PR_years_29_b
        rw [if_pos (Int32.le_refl _)]
      · show f_PM_years_28_b _ _ _ _ _ _ _ _ _ _ _ _ = _
        unfold f_PM_years_28_b
        rw [if_pos (Int32.le_refl _)]
  · rw [if_neg (show ¬ (((1 : Nat) : Int) ≤ i.toInt ∧ i.toInt ≤ ((30 : Nat) : Int)) from h), if_pos (show (0 : Int32) = 0 from rfl)]
    refine ⟨(-2, sd, tnt, toff, tw, shC), _, ?_, rfl, rfl, rfl⟩
    by_cases c1 : i < 1
    · rw [if_pos c1]
    · rw [if_neg c1, if_neg]
      rw [i_le (k := 30) (y := 30) (by omega) rfl]; rw [i_lt (k := 1) (y := 1) (by omega) rfl] at c1; omega
