/-! the rank behind a night; the scene's night on both sides -/
theorem i32_lt1 {x y K : Nat} (hx : x ≤ K) (hy : y ≤ K) (hK : K < 2 ^ 30) : nI x + 1 < nI y + 1 ↔ nI x < nI y := by
  rw [nI_1, nI_1, nI_ltI (by omega) (by omega), nI_ltI (by omega) (by omega)]
  omega
theorem rank_night {K n : Nat} (hn : n ≤ 5) (hK : K < 2 ^ 30) {H : Nat → Bool} {kinds pats w : Nat → Int32} {L : List Nat} (hw : Wb K n w) (hL : RankOK w L) : RankOK (fillN (nwC n H kinds pats w) w 5) (nightL n H kinds pats w L) ∧ Wb (K + 1) n (fillN (nwC n H kinds pats w) w 5) := by
  have hWl : ∀ c, c ∈ L → c < n := fun c hc => by
    rcases Nat.lt_or_ge c n with h | h
    · exact h
    · have h1 := (hL.2.1 c).mp hc
      exact absurd (hw.2 c h h1.1) h1.2
  have hst : ∀ c, c ∈ L.filter (fun c => !(decide (c < n) && goesB n H kinds pats w c)) → c ∈ L ∧ c < n ∧ fillN (nwC n H kinds pats w) w 5 c = w c + 1 ∧ ∃ x, x ≤ K ∧ w c = nI x := by
    intro c hc
    obtain ⟨h1, h2⟩ := List.mem_filter.mp hc
    have h3 := hWl c h1
    have h4 := (hL.2.1 c).mp h1
    refine ⟨h1, h3, ?_, ?_⟩
    · rw [fillN_in h4.1]
      unfold nwC
      rw [if_neg h4.2]
      simp only [h3, decide_true, Bool.true_and, goesB, Bool.not_not] at h2 ⊢
      rw [if_pos h2]
    · rcases hw.1 c h4.1 with h5 | h5
      · exact absurd h5 h4.2
      · exact h5
  have hnw : ∀ c, c ∈ (List.range n).filter (newB H w) → c < n ∧ w c = -9 ∧ fillN (nwC n H kinds pats w) w 5 c = 0 := by
    intro c hc
    obtain ⟨h1, h2⟩ := List.mem_filter.mp hc
    have h3 := List.mem_range.mp h1
    simp only [newB, Bool.and_eq_true, beq_iff_eq] at h2
    refine ⟨h3, h2.1, ?_⟩
    rw [fillN_in (by omega)]
    unfold nwC
    rw [if_pos h2.1]; simp [h3, h2.2]
  refine ⟨⟨nd_app (hL.1.filter _) (fun c hc => ((hL.2.1 c).mp (hst c hc).1).2), fun c => ?_, ?_⟩, ?_, ?_⟩
  · constructor
    · intro hc
      rcases List.mem_append.mp hc with h | h
      · obtain ⟨h1, h2, h3, x, h4, h5⟩ := hst c h
        refine ⟨by omega, ?_⟩
        rw [h3, h5, nI_1]; exact ne9 (by omega)
      · obtain ⟨h1, h2, h3⟩ := hnw c h
        refine ⟨by omega, ?_⟩
        rw [h3]; decide
    · rintro ⟨h5, h9⟩
      rw [fillN_in h5] at h9
      unfold nwC at h9
      by_cases h1 : w c = -9
      · rw [if_pos h1] at h9
        by_cases h2 : (decide (c < n) && H c) = true
        · simp only [Bool.and_eq_true, decide_eq_true_eq] at h2
          exact List.mem_append_right _ (List.mem_filter.mpr ⟨List.mem_range.mpr h2.1, by simp [newB, h1, h2.2]⟩)
        · rw [if_neg h2] at h9; exact absurd rfl h9
      · rw [if_neg h1] at h9
        have h3 : c ∈ L := (hL.2.1 c).mpr ⟨h5, h1⟩
        by_cases h2 : stayB (kinds c) (pats c) (w c) (decide (c < n) && H c) = true
        · exact List.mem_append_left _ (List.mem_filter.mpr ⟨h3, by simp only [goesB, h2, Bool.not_true, Bool.and_false, Bool.not_false]⟩)
        · rw [if_neg h2] at h9; exact absurd rfl h9
  · unfold nightL
    rw [List.pairwise_append]
    refine ⟨?_, ?_, ?_⟩
    · refine List.Pairwise.imp_of_mem ?_ (hL.2.2.filter _)
      intro a b ha hb hab
      obtain ⟨-, -, h3, x, h4, h5⟩ := hst a ha
      obtain ⟨-, -, h3', x', h4', h5'⟩ := hst b hb
      rw [h3, h3', h5, h5', i32_lt1 h4' h4 hK]
      rw [h5, h5'] at hab
      rcases hab with h | ⟨h, h2⟩
      · exact Or.inl h
      · exact Or.inr ⟨by rw [h], h2⟩
    · refine List.Pairwise.imp_of_mem ?_ (List.pairwise_lt_range.filter _)
      intro a b ha hb hab
      exact Or.inr ⟨by rw [(hnw a ha).2.2, (hnw b hb).2.2], hab⟩
    · intro a ha b hb
      obtain ⟨-, -, h3, x, h4, h5⟩ := hst a ha
      left
      rw [(hnw b hb).2.2, h3, h5, nI_1]
      exact nI_lt (a := 0) (by omega) (by omega)
  · intro c hc
    rw [fillN_in hc]
    unfold nwC
    by_cases h1 : w c = -9
    · rw [if_pos h1]
      split
      · exact Or.inr ⟨0, by omega, rfl⟩
      · exact Or.inl rfl
    · rw [if_neg h1]
      split
      · rcases hw.1 c hc with h | ⟨x, hx, h⟩
        · exact absurd h h1
        · exact Or.inr ⟨x + 1, by omega, by rw [h, nI_1]⟩
      · exact Or.inl rfl
  · intro c h1 h2
    rw [fillN_in h2]
    unfold nwC
    rw [if_pos (hw.2 c h1 h2)]
    simp [Nat.not_lt.mpr h1]
/-! what is shown -/
theorem isF_n {f : Nat} (hf : f < 4) : f_PR_isFinger (nI f) = some 1 := by
  unfold f_PR_isFinger f_PR_isFinger_14
  rw [if_neg (nI_pos (by omega)), if_neg (show ¬ (4 : Int32) ≤ nI f from nI_ge (b := 4) hf (by omega))]
  rfl
theorem off_n {f : Nat} (hf : f < 4) (off : Nat → Int32) : f_Scene_off (nI f) off = some (off f) := by
  unfold f_Scene_off f_Scene_off_17
  rw [isF_n hf]
  simp only [Option.bind_some, show ¬ ((1 : Int32) = 0) by decide, if_false]
  rw [rd_n (by omega) (by omega)]
  rfl
theorem layer_n {f o : Nat} (hf : f < 4) (ho : o < 3) (lay : Nat → Int32) : f_Hall_layer (nI f) (nI o) lay = some (lay (3 * f + o)) := by
  unfold f_Hall_layer f_Hall_layer_30
  rw [isF_n hf]
  simp only [Option.bind_some, show ¬ ((1 : Int32) = 0) by decide, if_false]
  rw [if_neg (nI_pos (by omega)), if_neg (show ¬ (3 : Int32) ≤ nI o from nI_ge (b := 3) ho (by omega)), show nI f * 3 + nI o = nI (3 * f + o) by rw [show (3 : Int32) = nI 3 from rfl, pk_mul, nI_add]; congr 1; omega, rd_n (by omega) (by omega)]
  rfl
/-- what the fingers show -/
def shN (lay off : Nat → Int32) (f : Nat) : Int32 := lay (3 * f + (off f).toNatClampNeg)
theorem shN_o {lay off : Nat → Int32} {f x : Nat} (hx : x < 3) (h : off f = nI x) : shN lay off f = lay (3 * f + x) := by
  unfold shN; rw [h, nI_clamp (by omega)]
theorem showAll_eq {lay off sh : Nat → Int32} (ho : Ob off) : f_Hand_showAll lay off sh = some (fillN (shN lay off) sh 4) := by
  have h0 : f_Hand_showAll lay off sh = f_Hand_showAll_2 lay off 300 (nI 0) (fillN (shN lay off) sh 0) := by rw [fillN_0]; rfl
  rw [h0]
  refine lpS (fun N k => f_Hand_showAll_2 lay off N (nI k) (fillN (shN lay off) sh k)) 4 _ ?_ ?_ 300 0 (by omega) (by omega)
  · intro N k hk
    obtain ⟨x, hx, hxe⟩ := ho k hk
    show f_Hand_showAll_2_b _ _ _ _ _ = _
    unfold f_Hand_showAll_2_b
    rw [if_neg (show ¬ (4 : Int32) ≤ nI k from nI_ge (b := 4) hk (by omega)), off_n hk, hxe]
    simp only [Option.bind_some]
    rw [layer_n hk hx]
    simp only [Option.bind_some]
    rw [wr_n (by omega) (by omega)]
    simp only [Option.bind_some, nI_1]
    rw [fillN_s (shN_o hx hxe).symm]
  · intro N
    show f_Hand_showAll_2_b _ _ _ _ _ = _
    unfold f_Hand_showAll_2_b
    rw [if_pos (show (4 : Int32) ≤ nI 4 by decide)]
theorem layShown_eq {layer lay off pg sh : Nat → Int32} (hl : ∀ j, j < 12 → layer j = lay j) (ho : Ob off) (hp : ∀ f, f < 4 → pg f = off f) : f_PM_layShown layer pg sh = some (fillN (shN lay off) sh 4) := by
  have h0 : f_PM_layShown layer pg sh = f_PM_layShown_2 layer pg 300 (nI 0) (fillN (shN lay off) sh 0) := by rw [fillN_0]; rfl
  rw [h0]
  refine lpS (fun N k => f_PM_layShown_2 layer pg N (nI k) (fillN (shN lay off) sh k)) 4 _ ?_ ?_ 300 0 (by omega) (by omega)
  · intro N k hk
    obtain ⟨x, hx, hxe⟩ := ho k hk
    show f_PM_layShown_2_b _ _ _ _ _ = _
    unfold f_PM_layShown_2_b
    rw [if_neg (show ¬ (4 : Int32) ≤ nI k from nI_ge (b := 4) hk (by omega)), show (0 : Int32) + nI k = nI k by rw [show (0 : Int32) = nI 0 from rfl, nI_add]; congr 1; omega, rd_n (by omega) (by omega), hp k hk, hxe]
    simp only [Option.bind_some]
    rw [show 3 * nI k + nI x = nI (3 * k + x) by rw [show (3 : Int32) = nI 3 from rfl, pk_mul, nI_add], rd_n (by omega) (by omega), hl _ (by omega)]
    simp only [Option.bind_some]
    rw [wr_n (by omega) (by omega)]
    simp only [Option.bind_some, nI_1]
    rw [fillN_s (shN_o hx hxe).symm]
  · intro N
    show f_PM_layShown_2_b _ _ _ _ _ = _
    unfold f_PM_layShown_2_b
    rw [if_pos (show (4 : Int32) ≤ nI 4 by decide)]
