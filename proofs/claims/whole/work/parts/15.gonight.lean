/-! a night: the model's side -/
theorem PageIs_cong {pg off w w' : Nat → Int32} {nt : Int32} {L : List Nat} (h : PageIs pg off w nt L) (hw : ∀ c, c < 5 → w c = w' c) : PageIs pg off w' nt L :=
  ⟨h.1, fun c hc => (h.2.1 c hc).trans (hw c hc), h.2.2⟩
theorem PageIs_w {pg off w : Nat → Int32} {nt : Int32} {L : List Nat} (h : PageIs pg off w nt L) {k : Nat} (hk : k < 5) (x : Int32) : PageIs (upd pg (10 + k) x) off (upd w k x) nt L := by
  obtain ⟨h1, h2, h3, h4, h5, h6, h7⟩ := h
  refine ⟨fun f hf => by rw [up_n (by omega)]; exact h1 f hf, fun c hc => ?_, by rw [up_n (by omega)]; exact h3, by rw [up_n (by omega)]; exact h4, fun i hi => by rw [up_n (by omega)]; exact h5 i hi, h6, h7⟩
  by_cases hck : c = k
  · subst hck; rw [up_s, up_s]
  · rw [up_n (by omega), up_n hck]; exact h2 c hc
theorem PageIs_nt {pg off w : Nat → Int32} {nt : Int32} {L : List Nat} (h : PageIs pg off w nt L) (x : Int32) : PageIs (upd pg 15 x) off w x L := by
  obtain ⟨h1, h2, h3, h4, h6, h7, h8⟩ := h
  exact ⟨fun f hf => by rw [up_n (by omega)]; exact h1 f hf, fun c hc => by rw [up_n (by omega)]; exact h2 c hc, up_s, by rw [up_n (by omega)]; exact h4, fun i hi => by rw [up_n (by omega)]; exact h6 i hi, h7, h8⟩
/-- those that go, of those that wait -/
def g1C (n : Nat) (H : Nat → Bool) (kinds pats w : Nat → Int32) (c : Nat) : Int32 :=
  if w c = -9 then -9 else if stayB (kinds c) (pats c) (w c) (decide (c < n) && H c) = true then w c + 1 else -9
def goesB (n : Nat) (H : Nat → Bool) (kinds pats w : Nat → Int32) (c : Nat) : Bool := !(stayB (kinds c) (pats c) (w c) (decide (c < n) && H c))
def newB (H : Nat → Bool) (w : Nat → Int32) (c : Nat) : Bool := (w c == -9) && H c
def nightL (n : Nat) (H : Nat → Bool) (kinds pats w : Nat → Int32) (L : List Nat) : List Nat :=
  L.filter (fun c => !(decide (c < n) && goesB n H kinds pats w c)) ++ (List.range n).filter (newB H w)
theorem nd_app {H : Nat → Bool} {w : Nat → Int32} {A : List Nat} {k : Nat} (hA : A.Nodup) (h : ∀ c, c ∈ A → w c ≠ -9) : (A ++ (List.range k).filter (newB H w)).Nodup := by
  rw [List.nodup_append]
  refine ⟨hA, List.Pairwise.filter _ List.nodup_range, fun a ha b hb e => ?_⟩
  subst e
  have h1 := (List.mem_filter.mp hb).2
  simp only [newB, Bool.and_eq_true, beq_iff_eq] at h1
  exact h a ha h1.1
theorem goN2 {n : Nat} (hn : n ≤ 5) {H : Nat → Bool} {w W off sh layer cab pg : Nat → Int32} {nt : Int32} {A : List Nat} (hA : A.Nodup) (hA5 : ∀ c, c ∈ A → c < 5 ∧ w c ≠ -9) (hp : PageIs pg off W nt A) :
    ∃ r, f_PM_goNight_121 (nI n) layer cab 300 (nI (maskN H n)) (nI (maskN (fun c => !(w c == -9)) 5)) (nI 0) sh pg = some r ∧ (r.1 = sh ∧ PageIs r.2 off (fillN (fun c => if newB H w c = true then 0 else W c) W n) (nt + 1) (A ++ (List.range n).filter (newB H w))) := by
  have hm := mask5 H hn
  have hm2 := mask5 (fun c => !(w c == -9)) (n := 5) (by omega)
  have hlen : ∀ k, k ≤ n → (A ++ (List.range k).filter (newB H w)).length ≤ 5 := fun k hk => nd_len 5 _ (nd_app hA (fun c hc => (hA5 c hc).2)) (fun c hc => by
    rcases List.mem_append.mp hc with h | h
    · exact (hA5 c h).1
    · have := List.mem_range.mp (List.mem_filter.mp h).1; omega)
  refine lpI (fun N k s => f_PM_goNight_121 (nI n) layer cab N (nI (maskN H n)) (nI (maskN (fun c => !(w c == -9)) 5)) (nI k) sh s)
    (fun k s => PageIs s off (fillN (fun c => if newB H w c = true then 0 else W c) W k) nt (A ++ (List.range k).filter (newB H w))) n _ ?_ ?_ 300 0 pg (by omega) (by omega) (by rw [fillN_0]; simpa using hp)
  · intro N k s hk hI
    have hF : f_PM_goNight_121 (nI n) layer cab (N + 1) (nI (maskN H n)) (nI (maskN (fun c => !(w c == -9)) 5)) (nI k) sh s = if newB H w k = true then f_PM_goNight_121 (nI n) layer cab N (nI (maskN H n)) (nI (maskN (fun c => !(w c == -9)) 5)) (nI (k + 1)) sh (upd (upd (upd s (5 + (A ++ (List.range k).filter (newB H w)).length) (nI k)) 4 (nI ((A ++ (List.range k).filter (newB H w)).length + 1))) (10 + k) 0) else f_PM_goNight_121 (nI n) layer cab N (nI (maskN H n)) (nI (maskN (fun c => !(w c == -9)) 5)) (nI (k + 1)) sh s := by
      have h5 := hlen (k + 1) (by omega)
      show f_PM_goNight_121_b _ _ _ _ _ _ _ _ _ = _
      unfold f_PM_goNight_121_b f_PM_goNight_172
      rw [if_neg (nI_ge hk (by omega)), has5 _ hm k (by omega), has5 _ hm2 k (by omega), maskN_bit, maskN_bit]
      simp only [hk, decide_true, Bool.true_and, show k < 5 by omega, Option.bind_some, nI_1]
      have h4 := hI.2.2.2.1
      rw [List.range_succ, List.filter_append, ← List.append_assoc] at h5
      generalize A ++ (List.range k).filter (newB H w) = B at h4 h5 ⊢
      by_cases hh : H k = true
      · by_cases hw : w k = -9
        · have hnew : newB H w k = true := by simp [newB, hh, hw]
          have h6 : B.length < 5 := by
            simp [hnew] at h5; omega
          simp only [hh, hw, hnew, if_true, beq_self_eq_true, Bool.not_true, Bool.false_eq_true, if_false, show ¬ ((1 : Int32) = 0) by decide]
          rw [show (4 : Int32) = nI 4 from rfl, show (5 : Int32) = nI 5 from rfl, show (10 : Int32) = nI 10 from rfl, rd_n (by omega) (by omega), h4]
          simp only [Option.bind_some, nI_add]
          rw [wr_n (by omega) (by omega)]
          simp only [Option.bind_some]
          rw [rd_n (by omega) (by omega), up_n (by omega), h4]
          simp only [Option.bind_some]
          rw [wr_n (by omega) (by omega)]
          simp only [Option.bind_some]
          rw [wr_n (by omega) (by omega)]
          simp only [Option.bind_some, nI_1]
        · have hnew : newB H w k = false := by simp [newB, hh, hw]
          simp [hh, hw, hnew]
      · have hnew : newB H w k = false := by simp [newB, hh]
        simp [hh, hnew]
    by_cases hnew : newB H w k = true
    · refine ⟨_, ?_, by rw [hF, if_pos hnew]⟩
      have h5 := hlen (k + 1) (by omega)
      have hr : (List.range (k + 1)).filter (newB H w) = (List.range k).filter (newB H w) ++ [k] := by
        rw [List.range_succ, List.filter_append]; simp [hnew]
      rw [hr, ← List.append_assoc] at h5 ⊢
      rw [← fillN_s (g := fun c => if newB H w c = true then 0 else W c) (x := 0) (by simp [hnew])]
      generalize A ++ (List.range k).filter (newB H w) = B at hI h5 ⊢
      simp only [List.length_append, List.length_cons, List.length_nil] at h5
      apply PageIs_w _ (by omega)
      obtain ⟨h1, h2, h3, h4, h6, h7, h8⟩ := hI
      refine ⟨fun f hf => by rw [up_n (by omega), up_n (by omega)]; exact h1 f hf, fun c hc => by rw [up_n (by omega), up_n (by omega)]; exact h2 c hc, by rw [up_n (by omega), up_n (by omega)]; exact h3, by rw [up_s]; simp, fun i hi => ?_, by simp; omega, fun c hc => ?_⟩
      · simp only [List.length_append, List.length_cons, List.length_nil] at hi
        rw [up_n (by omega)]
        by_cases hi2 : i = B.length
        · subst hi2; rw [up_s, gD_e]
        · rw [up_n (by omega), h6 i (by omega), gD_l (by omega)]
      · rcases List.mem_append.mp hc with h | h
        · exact h8 c h
        · simp at h; omega
    · refine ⟨s, ?_, by rw [hF, if_neg hnew]⟩
      have hr : (List.range (k + 1)).filter (newB H w) = (List.range k).filter (newB H w) := by
        rw [List.range_succ, List.filter_append]; simp [hnew]
      rw [hr, ← fillN_n (by simp [hnew])]
      exact hI
  · intro N s hI
    have h3 := hI.2.2.1
    refine ⟨(sh, upd s 15 (nt + 1)), ?_, rfl, PageIs_nt hI _⟩
    show f_PM_goNight_121_b _ _ _ _ _ _ _ _ _ = _
    unfold f_PM_goNight_121_b
    rw [if_pos (Int32.le_refl _), show (15 : Int32) = nI 15 from rfl, rd_n (by omega) (by omega), h3]
    simp only [Option.bind_some]
    rw [wr_n (by omega) (by omega)]
    rfl
theorem goN1 {n : Nat} (hn : n ≤ 5) {H : Nat → Bool} {w off sh layer cab kinds pats pg : Nat → Int32} {nt : Int32} {L : List Nat} (hw : ∀ c, n ≤ c → c < 5 → w c = -9) (hL : RankOK w L) (hc : ∀ c, c < n → cab (6 * c) = kinds c ∧ cab (6 * c + 1) = pats c) (hp : PageIs pg off w nt L) :
    ∃ r, f_PM_goNight_20 (nI n) layer cab 300 (nI (maskN H n)) (nI (maskN (fun c => !(w c == -9)) 5)) (nI 0) sh pg = some r ∧ (r.1 = sh ∧ PageIs r.2 off (nwC n H kinds pats w) (nt + 1) (nightL n H kinds pats w L)) := by
  have hm := mask5 H hn
  have hm2 := mask5 (fun c => !(w c == -9)) (n := 5) (by omega)
  refine lpI (fun N k s => f_PM_goNight_20 (nI n) layer cab N (nI (maskN H n)) (nI (maskN (fun c => !(w c == -9)) 5)) (nI k) sh s)
    (fun k s => PageIs s off (fillN (g1C n H kinds pats w) w k) nt (L.filter (fun c => !(decide (c < k) && goesB n H kinds pats w c)))) n _ ?_ ?_ 300 0 pg (by omega) (by omega) ?_
  · intro N k s hk hI
    by_cases hwk : w k = -9
    · refine ⟨s, ?_, ?_⟩
      · have hkL : k ∉ L := fun h => ((hL.2.1 k).mp h).2 hwk
        rw [← fillN_n (by unfold g1C; rw [if_pos hwk, hwk])]
        have : L.filter (fun c => !(decide (c < k + 1) && goesB n H kinds pats w c)) = L.filter (fun c => !(decide (c < k) && goesB n H kinds pats w c)) := by
          apply List.filter_congr
          intro c hcL
          have : c ≠ k := fun e => hkL (e ▸ hcL)
          have : decide (c < k + 1) = decide (c < k) := by
            by_cases h : c < k
            · simp [h]; omega
            · simp [h]; omega
          rw [this]
        rw [this]; exact hI
      · show f_PM_goNight_20_b _ _ _ _ _ _ _ _ _ = _
        unfold f_PM_goNight_20_b f_PM_goNight_112
        rw [if_neg (nI_ge hk (by omega)), has5 _ hm2 k (by omega), maskN_bit]
        simp [hwk, nI_1]
    · have hI1 := PageIs_w hI (show k < 5 by omega) (w k + 1)
      have hpre : f_PM_goNight_20 (nI n) layer cab (N + 1) (nI (maskN H n)) (nI (maskN (fun c => !(w c == -9)) 5)) (nI k) sh s = if stayB (kinds k) (pats k) (w k) (H k) = true then f_PM_goNight_20 (nI n) layer cab N (nI (maskN H n)) (nI (maskN (fun c => !(w c == -9)) 5)) (nI (k + 1)) sh (upd s (10 + k) (w k + 1)) else (f_PM_goAway (nI k) (upd s (10 + k) (w k + 1))).bind fun r => f_PM_goNight_20 (nI n) layer cab N (nI (maskN H n)) (nI (maskN (fun c => !(w c == -9)) 5)) (nI (k + 1)) sh r := by
        show f_PM_goNight_20_b _ _ _ _ _ _ _ _ _ = _
        unfold f_PM_goNight_20_b f_PM_goNight_76 f_PM_goNight_77 f_PM_goNight_112
        rw [if_neg (nI_ge hk (by omega)), has5 _ hm2 k (by omega), has5 _ hm k (by omega), maskN_bit, maskN_bit]
        rw [show (10 : Int32) = nI 10 from rfl, nI_add, rd_n (by omega) (by omega), hI.2.1 k (by omega), fillN_at]
        simp only [Option.bind_some, nI_1, hk, decide_true, Bool.true_and, show k < 5 by omega, beq_eq_false_iff_ne.mpr hwk, Bool.not_false, if_true, show ¬ ((1 : Int32) = 0) by decide, if_false]
        rw [wr_n (by omega) (by omega), show (6 : Int32) * nI k = nI (6 * k) by rw [show (6 : Int32) = nI 6 from rfl, pk_mul]]
        simp only [Option.bind_some, nI_1]
        rw [rd_n (by omega) (by omega), rd_n (by omega) (by omega), rd_n (by omega) (by omega), (hc k hk).1, (hc k hk).2, up_s]
        simp only [Option.bind_some, stayB]
        by_cases h1 : w k + 1 < pats k <;> by_cases h2 : kinds k = 3 <;> cases h3 : H k <;> simp [h1, h2]
      have hg : g1C n H kinds pats w k = if stayB (kinds k) (pats k) (w k) (H k) = true then w k + 1 else -9 := by
        unfold g1C; rw [if_neg hwk]; simp [hk]
      have hgo : goesB n H kinds pats w k = !(stayB (kinds k) (pats k) (w k) (H k)) := by simp [goesB, hk]
      by_cases hst : stayB (kinds k) (pats k) (w k) (H k) = true
      · refine ⟨_, ?_, by rw [hpre, if_pos hst]⟩
        rw [← fillN_s (x := w k + 1) (by rw [hg, if_pos hst])]
        have : L.filter (fun c => !(decide (c < k + 1) && goesB n H kinds pats w c)) = L.filter (fun c => !(decide (c < k) && goesB n H kinds pats w c)) := by
          apply List.filter_congr
          intro c hcL
          by_cases hck : c = k
          · subst hck; simp [hgo, hst]
          · have : decide (c < k + 1) = decide (c < k) := by
              by_cases h : c < k
              · simp [h]; omega
              · simp [h]; omega
            rw [this]
        rw [this]; exact hI1
      · obtain ⟨p2, e1, e2⟩ := goAway_eq (show k < 5 by omega) hI1
        refine ⟨p2, ?_, by rw [hpre, if_neg hst, e1]; rfl⟩
        rw [up_up, fillN_s (by rw [hg, if_neg hst]), List.filter_filter] at e2
        have : L.filter (fun c => !(decide (c < k + 1) && goesB n H kinds pats w c)) = L.filter (fun a => (a != k) && !(decide (a < k) && goesB n H kinds pats w a)) := by
          apply List.filter_congr
          intro c hcL
          by_cases hck : c = k
          · subst hck; simp [hgo, hst]
          · have : decide (c < k + 1) = decide (c < k) := by
              by_cases h : c < k
              · simp [h]; omega
              · simp [h]; omega
            rw [this]; simp [hck]
        rw [this]; exact e2
  · intro N s hI
    have hA : (L.filter (fun c => !(decide (c < n) && goesB n H kinds pats w c))).Nodup := hL.1.filter _
    have hA5 : ∀ c, c ∈ L.filter (fun c => !(decide (c < n) && goesB n H kinds pats w c)) → c < 5 ∧ w c ≠ -9 := fun c h => (hL.2.1 c).mp (List.mem_filter.mp h).1
    obtain ⟨r, e1, e2, e3⟩ := goN2 hn (H := H) (sh := sh) (layer := layer) (cab := cab) hA hA5 hI
    refine ⟨r, ?_, e2, PageIs_cong e3 (fun c h5 => ?_)⟩
    · show f_PM_goNight_20_b _ _ _ _ _ _ _ _ _ = _
      unfold f_PM_goNight_20_b
      rw [if_pos (Int32.le_refl _)]
      exact e1
    · by_cases hcn : c < n
      · rw [fillN_in hcn, fillN_in hcn]
        unfold nwC g1C newB
        by_cases h1 : w c = -9
        · by_cases h2 : H c = true <;> simp [h1, h2, hcn]
        · simp [h1]
      · rw [fillN_out (by omega), fillN_out (by omega)]
        unfold nwC
        rw [hw c (by omega) h5]; simp [hcn]
  · rw [fillN_0]
    have : L.filter (fun c => !(decide (c < 0) && goesB n H kinds pats w c)) = L := by
      rw [List.filter_eq_self]; intro a _; simp
    rw [this]; exact hp
