/-! cleanings -/
/-- a figure of a cleaning: that of finger f -/
def dg (k f : Nat) : Nat := k / 10 ^ (3 - f) % 10
def offC (off : Nat → Int32) (k f : Nat) : Int32 := off f + nI (dg k f)
def okC (off : Nat → Int32) (k : Nat) : Bool := decide ((off 0).toNatClampNeg + dg k 0 ≤ 2) && (decide ((off 1).toNatClampNeg + dg k 1 ≤ 2) && (decide ((off 2).toNatClampNeg + dg k 2 ≤ 2) && decide ((off 3).toNatClampNeg + dg k 3 ≤ 2)))
theorem okC_at {off : Nat → Int32} {k : Nat} (h : okC off k = true) : ∀ f, f < 4 → (off f).toNatClampNeg + dg k f ≤ 2 := by
  simp only [okC, Bool.and_eq_true, decide_eq_true_eq] at h
  intro f hf
  rcases (show f = 0 ∨ f = 1 ∨ f = 2 ∨ f = 3 by omega) with rfl | rfl | rfl | rfl
  · exact h.1
  · exact h.2.1
  · exact h.2.2.1
  · exact h.2.2.2
theorem Ob_cl {off : Nat → Int32} (ho : Ob off) : ∀ f, f < 4 → (off f).toNatClampNeg < 3 ∧ off f = nI (off f).toNatClampNeg := by
  intro f hf
  obtain ⟨x, hx, e⟩ := ho f hf
  rw [e, nI_clamp (by omega)]
  exact ⟨hx, rfl⟩
theorem offC_o {off : Nat → Int32} (ho : Ob off) {k f : Nat} (hf : f < 4) : offC off k f = nI ((off f).toNatClampNeg + dg k f) := by
  unfold offC
  have h := (Ob_cl ho f hf).2
  generalize (off f).toNatClampNeg = x at h ⊢
  rw [h, nI_add]
theorem Ob_offC {off : Nat → Int32} (ho : Ob off) {k : Nat} (h : okC off k = true) : Ob (offC off k) := fun f hf => ⟨_, by have := okC_at h f hf; omega, offC_o ho hf⟩
theorem sh_offC {off lay : Nat → Int32} (ho : Ob off) {k f : Nat} (h : okC off k = true) (hf : f < 4) : shN lay (offC off k) f = lay (3 * f + ((off f).toNatClampNeg + dg k f)) := shN_o (by have := okC_at h f hf; omega) (offC_o ho hf)
theorem hb_step {n : Nat} {lay kinds wanted off sh : Nat → Int32} (ho : Ob off) {f r N : Nat} (hf : f < 4) (hr : r < 10000) : f_PR_hailedBy_18 (nI n) lay kinds wanted off (N + 1) (nI r) (nI f) sh = if (off f).toNatClampNeg + r % 10 ≤ 2 then f_PR_hailedBy_18 (nI n) lay kinds wanted off N (nI (r / 10)) (nI f + (-1)) (upd sh f (lay (3 * f + ((off f).toNatClampNeg + r % 10)))) else some (-2, sh) := by
  obtain ⟨h1, h2⟩ := Ob_cl ho f hf
  show f_PR_hailedBy_18_b _ _ _ _ _ _ _ _ _ = _
  unfold f_PR_hailedBy_18_b
  rw [if_neg (nI_pos (by omega)), off_n hf]
  generalize (off f).toNatClampNeg = x at h1 h2 ⊢
  rw [h2]
  simp only [Option.bind_some]
  rw [show rmI (nI r) 10 = nI (r % 10) from pk_rem (d := 10) (by omega) (by omega) (by omega), nI_add, show nI r / 10 = nI (r / 10) from pk_div (d := 10) (by omega) (by omega) (by omega)]
  by_cases hc : x + r % 10 ≤ 2
  · rw [if_pos (show nI (x + r % 10) ≤ 2 from nI_le (b := 2) hc (by omega)), if_pos hc, layer_n hf (by omega)]
    simp only [Option.bind_some]
    unfold f_Hand_show f_Hand_show_14
    rw [isF_n hf]
    simp only [Option.bind_some, show ¬ ((1 : Int32) = 0) by decide, if_false]
    rw [wr_n hf (by omega)]
    rfl
  · rw [if_neg (show ¬ nI (x + r % 10) ≤ 2 from nI_ge (a := 2) (by omega) (by omega)), if_neg hc]
theorem hb_end {n N : Nat} (hn : n ≤ 5) {lay kinds wanted off sh : Nat → Int32} {r : Int32} : f_PR_hailedBy_18 (nI n) lay kinds wanted off (N + 1) r (nI 0 + (-1)) sh = some (nI (maskN (fun c => hailsB (kinds c) (fun f => wanted (4 * c + f)) sh) n), sh) := by
  show f_PR_hailedBy_18_b _ _ _ _ _ _ _ _ _ = _
  unfold f_PR_hailedBy_18_b
  rw [if_pos (by decide), hailed_eq hn]
  rfl
/-- the class's answer to a cleaning of at most 2222 -/
theorem hailedBy_eq {n : Nat} (hn : n ≤ 5) {lay kinds wanted off : Nat → Int32} (ho : Ob off) {k : Nat} (hk : k ≤ 2222) (sh : Nat → Int32) : ∃ sh', f_PR_hailedBy (nI k) (nI n) lay kinds wanted off sh = some (if okC off k = true then nI (maskN (HC lay kinds wanted (offC off k)) n) else -2, sh') := by
  unfold f_PR_hailedBy
  rw [if_neg (nI_pos (by omega)), if_pos (show nI k ≤ 2222 from nI_le (b := 2222) hk (by omega))]
  show ∃ sh', f_PR_hailedBy_18 (nI n) lay kinds wanted off (299 + 1) (nI k) (nI 3) sh = _
  have d3 : dg k 3 = k % 10 := by unfold dg; simp
  have d2 : dg k 2 = k / 10 % 10 := by unfold dg; simp
  have d1 : dg k 1 = k / 10 / 10 % 10 := by unfold dg; rw [Nat.div_div_eq_div_mul]
  have d0 : dg k 0 = k / 10 / 10 / 10 % 10 := by unfold dg; rw [Nat.div_div_eq_div_mul, Nat.div_div_eq_div_mul]
  have hok : okC off k = (decide ((off 0).toNatClampNeg + k / 10 / 10 / 10 % 10 ≤ 2) && (decide ((off 1).toNatClampNeg + k / 10 / 10 % 10 ≤ 2) && (decide ((off 2).toNatClampNeg + k / 10 % 10 ≤ 2) && decide ((off 3).toNatClampNeg + k % 10 ≤ 2)))) := by
    unfold okC; rw [d0, d1, d2, d3]
  rw [hb_step ho (by omega) (by omega)]
  by_cases c3 : (off 3).toNatClampNeg + k % 10 ≤ 2
  · rw [if_pos c3, show nI 3 + (-1) = nI 2 from rfl, show 299 = 298 + 1 from rfl, hb_step ho (by omega) (by omega)]
    by_cases c2 : (off 2).toNatClampNeg + k / 10 % 10 ≤ 2
    · rw [if_pos c2, show nI 2 + (-1) = nI 1 from rfl, show 298 = 297 + 1 from rfl, hb_step ho (by omega) (by omega)]
      by_cases c1 : (off 1).toNatClampNeg + k / 10 / 10 % 10 ≤ 2
      · rw [if_pos c1, show nI 1 + (-1) = nI 0 from rfl, show 297 = 296 + 1 from rfl, hb_step ho (by omega) (by omega)]
        by_cases c0 : (off 0).toNatClampNeg + k / 10 / 10 / 10 % 10 ≤ 2
        · have hk1 : okC off k = true := by rw [hok]; simp only [c0, c1, c2, c3, decide_true, Bool.and_true]
          rw [if_pos c0, show 296 = 295 + 1 from rfl, hb_end hn, if_pos hk1]
          rw [maskN_cong (P' := HC lay kinds wanted (offC off k))]
          · exact ⟨_, rfl⟩
          intro c hc
          apply hails_cong
          intro f hf
          rw [sh_offC ho hk1 hf]
          rcases (show f = 0 ∨ f = 1 ∨ f = 2 ∨ f = 3 by omega) with rfl | rfl | rfl | rfl
          · rw [up_s, d0]
          · rw [up_n (by omega), up_s, d1]
          · rw [up_n (by omega), up_n (by omega), up_s, d2]
          · rw [up_n (by omega), up_n (by omega), up_n (by omega), up_s, d3]
        · have hk1 : okC off k = false := by rw [hok]; simp only [c0, decide_false, Bool.false_and]
          rw [if_neg c0, hk1]; exact ⟨_, rfl⟩
      · have hk1 : okC off k = false := by rw [hok]; simp only [c1, decide_false, Bool.false_and, Bool.and_false]
        rw [if_neg c1, hk1]; exact ⟨_, rfl⟩
    · have hk1 : okC off k = false := by rw [hok]; simp only [c2, decide_false, Bool.false_and, Bool.and_false]
      rw [if_neg c2, hk1]; exact ⟨_, rfl⟩
  · have hk1 : okC off k = false := by rw [hok]; simp only [c3, decide_false, Bool.and_false]
    rw [if_neg c3, hk1]; exact ⟨_, rfl⟩
theorem hailedBy_bad {n : Int32} {lay kinds wanted off sh : Nat → Int32} {i : Int32} (h : ¬ (0 ≤ i.toInt ∧ i.toInt ≤ 2222)) : f_PR_hailedBy i n lay kinds wanted off sh = some (-2, sh) := by
  unfold f_PR_hailedBy f_PR_hailedBy_11
  by_cases c1 : i < 0
  · rw [if_pos c1]
  · rw [if_neg c1, if_neg]
    rw [i_le (k := 2222) (y := 2222) (by omega) rfl]; rw [i_lt0] at c1; omega
/-! the model's side -/
theorem pow10 : ∀ e, e < 4 → f_PM_power 10 (nI e) = some (nI (10 ^ e)) := by decide +kernel
theorem lc_step {layer lay off pg sh : Nat → Int32} (hl : ∀ j, j < 12 → layer j = lay j) (ho : Ob off) (hp : ∀ f, f < 4 → pg f = off f) {f k N : Nat} (hf : f < 4) (hk : k ≤ 2222) (b : Bool) : f_PM_layCleaning_18 layer pg (N + 1) (nI k) (if b then 1 else 0) (nI f) sh = f_PM_layCleaning_18 layer pg N (nI k) (if b && decide ((off f).toNatClampNeg + dg k f ≤ 2) then 1 else 0) (nI (f + 1)) (upd sh f (if b && decide ((off f).toNatClampNeg + dg k f ≤ 2) then lay (3 * f + ((off f).toNatClampNeg + dg k f)) else 0)) := by
  obtain ⟨h1, h2⟩ := Ob_cl ho f hf
  have hpos : 0 < 10 ^ (3 - f) := Nat.pow_pos (by omega)
  have hle : 10 ^ (3 - f) ≤ 10 ^ 3 := Nat.pow_le_pow_right (by omega) (by omega)
  have hdiv : k / 10 ^ (3 - f) ≤ k := Nat.div_le_self _ _
  show f_PM_layCleaning_18_b _ _ _ _ _ _ _ = _
  unfold f_PM_layCleaning_18_b f_PM_layCleaning_61 f_PM_layCleaning_62 f_PM_layCleaning_96
  rw [if_neg (show ¬ (4 : Int32) ≤ nI f from nI_ge (b := 4) hf (by omega)), show 3 - nI f = nI (3 - f) from pk_sub (a := 3) (by omega), pow10 _ (by omega)]
  simp only [Option.bind_some]
  rw [if_neg (nI_ne0 hpos (by omega)), pk_div (by omega) hpos (by omega), show rmI (nI (k / 10 ^ (3 - f))) 10 = nI (dg k f) from pk_rem (d := 10) (by omega) (by omega) (by omega), show (0 : Int32) + nI f = nI f by rw [show (0 : Int32) = nI 0 from rfl, nI_add]; congr 1; omega, rd_n (by omega) (by omega), hp f hf]
  have hd : dg k f < 10 := Nat.mod_lt _ (by omega)
  generalize (off f).toNatClampNeg = x at h1 h2 ⊢
  rw [h2]
  generalize dg k f = y at hd ⊢
  simp only [Option.bind_some, nI_1]
  rw [show nI y + nI x = nI (x + y) by rw [nI_add]; congr 1; omega, show 3 * nI f + nI x + nI y = nI (3 * f + (x + y)) by rw [show (3 : Int32) = nI 3 from rfl, pk_mul, nI_add, nI_add]; congr 1; omega]
  cases b
  · simp only [Bool.false_and, Bool.false_eq_true, if_false, if_true]
    rw [wr_n hf (by omega)]; rfl
  · simp only [Bool.true_and, if_true, show ¬ ((1 : Int32) = 0) by decide, if_false]
    by_cases hc : x + y ≤ 2
    · rw [if_neg (show ¬ (3 : Int32) ≤ nI (x + y) from nI_ge (b := 3) (by omega) (by omega)), rd_n (by omega) (by omega)]
      simp only [Option.bind_some, hc, decide_true, if_true]
      rw [wr_n hf (by omega), hl _ (by omega)]; rfl
    · rw [if_pos (show (3 : Int32) ≤ nI (x + y) from nI_le (a := 3) (by omega) (by omega))]
      simp only [hc, decide_false, Bool.false_eq_true, if_false]
      rw [wr_n hf (by omega)]; rfl
theorem lc_end {layer pg sh : Nat → Int32} {N : Nat} {x : Int32} {b : Bool} : f_PM_layCleaning_18 layer pg (N + 1) x (if b = true then 1 else 0) (nI 4) sh = some (if b = true then 1 else 0, sh) := by
  show f_PM_layCleaning_18_b _ _ _ _ _ _ _ = _
  unfold f_PM_layCleaning_18_b
  rw [if_pos (show (4 : Int32) ≤ nI 4 by decide), if_pos (by cases b <;> simp)]
theorem in2222 {k : Nat} (hk : k ≤ 2222) : f_PM_in (nI k).toInt64 0 2222 = some 1 := by
  rw [in_lit (x := nI k) (lo := 0) (hi := 2222) (by omega) (by omega) (a := 0) (b := 2222) rfl (show (2222 : Int64) = (nI 2222).toInt64 from (nI_l (n := 2222) (by omega)).symm), nI_toInt (by omega), if_pos (by omega)]
theorem lc_start {layer pg sh : Nat → Int32} {k : Nat} (hk : k ≤ 2222) : f_PM_layCleaning (nI k) layer pg sh = f_PM_layCleaning_18 layer pg 300 (nI k) 1 0 sh := by
  unfold f_PM_layCleaning
  rw [in2222 hk, Option.bind_some, if_neg (show ¬ ((1 : Int32) = 0) by decide)]
theorem lc_300 {layer pg sh : Nat → Int32} {x : Int32} : f_PM_layCleaning_18 layer pg 300 x 1 0 sh = f_PM_layCleaning_18 layer pg (299 + 1) x (if true = true then 1 else 0) (nI 0) sh := by
  rw [if_pos rfl]; rfl
theorem layC_eq {n : Nat} {lay kinds pats wanted layer cab off pg : Nat → Int32} (hH : HallR n lay kinds pats wanted layer cab) (ho : Ob off) (hp : ∀ f, f < 4 → pg f = off f) {k : Nat} (hk : k ≤ 2222) (sh : Nat → Int32) : ∃ sh', f_PM_layCleaning (nI k) layer pg sh = some (if okC off k = true then 1 else 0, sh') ∧ (okC off k = true → ∀ f, f < 4 → sh' f = shN lay (offC off k) f) := by
  have hl : ∀ j, j < 12 → layer j = lay j := fun j hj => (hH.2.1 j hj).1
  rw [lc_start hk, lc_300]
  rw [lc_step hl ho hp (by omega) hk, show 299 = 298 + 1 from rfl, lc_step hl ho hp (by omega) hk, show 298 = 297 + 1 from rfl, lc_step hl ho hp (by omega) hk, show 297 = 296 + 1 from rfl, lc_step hl ho hp (by omega) hk, show 296 = 295 + 1 from rfl]
  have hb : ((((true && decide ((off 0).toNatClampNeg + dg k 0 ≤ 2)) && decide ((off (0 + 1)).toNatClampNeg + dg k (0 + 1) ≤ 2)) && decide ((off (0 + 1 + 1)).toNatClampNeg + dg k (0 + 1 + 1) ≤ 2)) && decide ((off (0 + 1 + 1 + 1)).toNatClampNeg + dg k (0 + 1 + 1 + 1) ≤ 2)) = okC off k := by
    unfold okC; simp only [Bool.true_and, Bool.and_assoc, Nat.zero_add, Nat.reduceAdd]
  generalize hb0 : (true && decide ((off 0).toNatClampNeg + dg k 0 ≤ 2)) = b0 at hb ⊢
  generalize hb1 : (b0 && decide ((off (0 + 1)).toNatClampNeg + dg k (0 + 1) ≤ 2)) = b1 at hb ⊢
  generalize hb2 : (b1 && decide ((off (0 + 1 + 1)).toNatClampNeg + dg k (0 + 1 + 1) ≤ 2)) = b2 at hb ⊢
  rw [hb]
  rw [show nI (0 + 1 + 1 + 1 + 1) = nI 4 from rfl, lc_end]
  refine ⟨_, rfl, ?_⟩
  · intro hk1 f hf
    rw [hk1] at hb
    simp only [Bool.and_eq_true] at hb
    have hb2t := hb.1
    rw [hb2t] at hb2
    simp only [Bool.and_eq_true] at hb2
    have hb1t := hb2.1
    rw [hb1t] at hb1
    simp only [Bool.and_eq_true] at hb1
    rw [hb2t, hb1t, hb1.1, hk1, sh_offC ho hk1 hf]
    simp only [if_true]
    rcases (show f = 0 ∨ f = 1 ∨ f = 2 ∨ f = 3 by omega) with rfl | rfl | rfl | rfl
    · rw [up_n (by omega), up_n (by omega), up_n (by omega), up_s]
    · rw [up_n (by omega), up_n (by omega), up_s]
    · rw [up_n (by omega), up_s]
    · rw [up_s]
theorem op_call {K n : Nat} {lay kinds pats wanted layer cab off w pg shC shM : Nat → Int32} {nt th : Int32} (hH : HallR n lay kinds pats wanted layer cab) (hS : SceneR K n off w nt pg) (i : Int32) : ∃ r r', f_PR_call i (nI n) lay kinds wanted off shC = some r ∧ f_PM_call i (nI n) layer cab pg th shM = some r' ∧ r.1 = r'.1 := by
  obtain ⟨ho, -, L, -, hp⟩ := hS
  unfold f_PR_call f_PM_call f_PM_call_24
  by_cases h : 0 ≤ i.toInt ∧ i.toInt ≤ 2222
  · obtain ⟨k, hk, rfl, hk2⟩ := i_nI h.1
    obtain ⟨s1, e1⟩ := hailedBy_eq (kinds := kinds) (wanted := wanted) (lay := lay) hH.1 ho (k := k) (by omega) shC
    obtain ⟨s2, e2, e3⟩ := layC_eq hH ho hp.1 (k := k) (by omega) shM
    rw [e1, e2]
    simp only [Option.bind_some]
    cases hk1 : okC off k
    · exact ⟨_, _, rfl, rfl, rfl⟩
    · simp only [if_true, show ¬ ((1 : Int32) = 0) by decide, if_false]
      rw [called15 hH (Ob_offC ho hk1) (e3 hk1)]
      exact ⟨_, _, rfl, rfl, rfl⟩
  · rw [hailedBy_bad h]
    unfold f_PM_layCleaning
    rw [in_lit (x := i) (lo := 0) (hi := 2222) (by omega) (by omega) (a := 0) (b := 2222) rfl (show (2222 : Int64) = (nI 2222).toInt64 from (nI_l (n := 2222) (by omega)).symm), if_neg (show ¬ (((0 : Nat) : Int) ≤ i.toInt ∧ i.toInt ≤ ((2222 : Nat) : Int)) from h)]
    exact ⟨_, _, rfl, rfl, rfl⟩
