/-! the first one in the rank, the rank as figures -/
/-- the first of a row, or none -/
def hdI : List Nat → Int32
  | [] => -9
  | a :: _ => nI a
def bef (w : Nat → Int32) (a b : Nat) : Prop := w b < w a ∨ (w a = w b ∧ a < b)
theorem waited_n {c : Nat} (hc : c < 5) (w : Nat → Int32) : f_Scene_waited (nI c) w = some (w c) := by
  unfold f_Scene_waited f_Scene_waited_20
  rw [if_neg (nI_pos (by omega)), if_neg (show ¬ (5 : Int32) ≤ nI c from nI_ge (b := 5) hc (by omega)), rd_n hc (by omega)]
  rfl
theorem waited_m9 (w : Nat → Int32) : f_Scene_waited (-9) w = some (-9) := by
  unfold f_Scene_waited f_Scene_waited_18 f_Scene_waited_20
  rw [if_pos (by decide)]
theorem firstOf_eq {w : Nat → Int32} {T : List Nat} (h5 : ∀ c, c ∈ T → c < 5) (hs : T.Pairwise (bef w)) : f_Scene_firstOf (nI (maskN (fun c => decide (c ∈ T)) 5)) w = some (hdI T) := by
  have hm := mask5 (fun c => decide (c ∈ T)) (n := 5) (by omega)
  have key : ∃ r, f_Scene_firstOf (nI (maskN (fun c => decide (c ∈ T)) 5)) w = some r ∧ ((r = -9 ∧ ∀ c, c ∈ T → ¬ c < 5) ∨ ∃ b, r = nI b ∧ b ∈ T ∧ b < 5 ∧ ∀ c, c ∈ T → c < 5 → c ≠ b → bef w b c) := by
    refine lpI (fun N k s => f_Scene_firstOf_5 w N (nI (maskN (fun c => decide (c ∈ T)) 5)) s (nI k))
      (fun k s => (s = -9 ∧ ∀ c, c ∈ T → ¬ c < k) ∨ ∃ b, s = nI b ∧ b ∈ T ∧ b < k ∧ ∀ c, c ∈ T → c < k → c ≠ b → bef w b c) 5 _ ?_ ?_ 300 0 (-9) (by omega) (by omega) (Or.inl ⟨rfl, fun c _ => by omega⟩)
    · intro N k s hk hI
      have hF : f_Scene_firstOf_5 w (N + 1) (nI (maskN (fun c => decide (c ∈ T)) 5)) s (nI k) = if k ∈ T then (if s = -9 then f_Scene_firstOf_5 w N (nI (maskN (fun c => decide (c ∈ T)) 5)) (nI k) (nI (k + 1)) else (f_Scene_waited s w).bind fun r5 => if w k ≤ r5 then f_Scene_firstOf_5 w N (nI (maskN (fun c => decide (c ∈ T)) 5)) s (nI (k + 1)) else f_Scene_firstOf_5 w N (nI (maskN (fun c => decide (c ∈ T)) 5)) (nI k) (nI (k + 1))) else f_Scene_firstOf_5 w N (nI (maskN (fun c => decide (c ∈ T)) 5)) s (nI (k + 1)) := by
        show f_Scene_firstOf_5_b _ _ _ _ _ = _
        unfold f_Scene_firstOf_5_b f_Scene_firstOf_24 f_Scene_firstOf_51 f_Scene_firstOf_53
        rw [if_neg (show ¬ (5 : Int32) ≤ nI k from nI_ge (b := 5) hk (by omega)), sm_bit _ hm k hk, maskN_bit, rd_n hk (by omega)]
        simp only [hk, decide_true, Bool.true_and, decide_eq_true_eq, Option.bind_some, nI_1]
        by_cases hkT : k ∈ T <;> simp [hkT]
      by_cases hkT : k ∈ T
      · rw [if_pos hkT] at hF
        rcases hI with ⟨rfl, hI⟩ | ⟨b, rfl, hb, hbk, hI⟩
        · refine ⟨nI k, Or.inr ⟨k, rfl, hkT, by omega, fun c hc h1 h2 => absurd (show c < k by omega) (hI c hc)⟩, ?_⟩
          rw [hF, if_pos rfl]
        · rw [if_neg (ne9 (by omega)), waited_n (by omega)] at hF
          simp only [Option.bind_some] at hF
          by_cases hle : w k ≤ w b
          · refine ⟨nI b, Or.inr ⟨b, rfl, hb, by omega, fun c hc h1 h2 => ?_⟩, by rw [hF, if_pos hle]⟩
            by_cases hck : c = k
            · subst hck
              rw [Int32.le_iff_toInt_le] at hle
              unfold bef
              rw [Int32.lt_iff_toInt_lt, ← Int32.toInt_inj]
              omega
            · exact hI c hc (by omega) h2
          · refine ⟨nI k, Or.inr ⟨k, rfl, hkT, by omega, fun c hc h1 h2 => ?_⟩, by rw [hF, if_neg hle]⟩
            rw [Int32.le_iff_toInt_le] at hle
            by_cases hcb : c = b
            · subst hcb
              left
              rw [Int32.lt_iff_toInt_lt]; omega
            · have h3 := hI c hc (by omega) hcb
              unfold bef at h3 ⊢
              rw [Int32.lt_iff_toInt_lt, ← Int32.toInt_inj] at h3 ⊢
              omega
      · rw [if_neg hkT] at hF
        refine ⟨s, ?_, hF⟩
        have hne : ∀ c, c ∈ T → c ≠ k := fun c hc e => hkT (e ▸ hc)
        rcases hI with ⟨rfl, hI⟩ | ⟨b, rfl, hb, hbk, hI⟩
        · exact Or.inl ⟨rfl, fun c hc h => hI c hc (by have := hne c hc; omega)⟩
        · exact Or.inr ⟨b, rfl, hb, by omega, fun c hc h1 h2 => hI c hc (by have := hne c hc; omega) h2⟩
    · intro N s hI
      refine ⟨s, ?_, hI⟩
      show f_Scene_firstOf_5_b _ _ _ _ _ = _
      unfold f_Scene_firstOf_5_b
      rw [if_pos (show (5 : Int32) ≤ nI 5 by decide)]
  obtain ⟨r, e1, e2⟩ := key
  rw [e1]
  cases T with
  | nil =>
    rcases e2 with ⟨rfl, -⟩ | ⟨b, -, hb, -⟩
    · rfl
    · cases hb
  | cons a t =>
    rcases e2 with ⟨-, h⟩ | ⟨b, rfl, hb, hb5, h⟩
    · exact absurd (h5 a List.mem_cons_self) (h a List.mem_cons_self)
    · by_cases hab : a = b
      · rw [← hab]; rfl
      · have h1 := h a List.mem_cons_self (h5 a List.mem_cons_self) hab
        have hbt : b ∈ t := by
          rcases List.mem_cons.mp hb with e | e
          · exact absurd e.symm hab
          · exact e
        have h2 := (List.pairwise_cons.mp hs).1 b hbt
        unfold bef at h1 h2
        rw [Int32.lt_iff_toInt_lt, ← Int32.toInt_inj] at h1 h2
        omega
theorem mask_rank {w : Nat → Int32} {L : List Nat} (h : RankOK w L) : maskN (fun c => !(w c == -9)) 5 = maskN (fun c => decide (c ∈ L)) 5 := by
  apply maskN_cong
  intro c hc
  have := h.2.1 c
  by_cases h1 : w c = -9
  · have : c ∉ L := fun h2 => (this.mp h2).2 h1
    simp [h1, this]
  · have : c ∈ L := this.mpr ⟨hc, h1⟩
    simp [h1, this]
theorem first_eq {w : Nat → Int32} {L : List Nat} (h : RankOK w L) : f_Scene_first w = some (hdI L) := by
  unfold f_Scene_first
  rw [waiting_eq]
  simp only [Option.bind_some]
  rw [mask_rank h, firstOf_eq (fun c hc => ((h.2.1 c).mp hc).1) h.2.2]
  rfl
/-! figures -/
def figN : List Nat → Nat → Nat
  | [], a => a
  | c :: t, a => figN t (10 * a + c + 1)
theorem sm_clr : ∀ m, m < 32 → ∀ b, b < 5 → (nI m &&& (slI 1 (nI b) ^^^ (-1))) = nI (m &&& (31 - 2 ^ b)) := by decide +kernel
theorem sm_clrb : ∀ b, b < 5 → ∀ k, k < 5 → (31 - 2 ^ b).testBit k = !(decide (k = b)) := by decide +kernel
theorem ext5 {a b : Nat} (ha : a < 32) (hb : b < 32) (h : ∀ k, k < 5 → a.testBit k = b.testBit k) : a = b := by
  apply Nat.eq_of_testBit_eq
  intro k
  by_cases hk : k < 5
  · exact h k hk
  · have h32 : 32 ≤ 2 ^ k := Nat.pow_le_pow_right (n := 2) (by omega) (show 5 ≤ k by omega)
    rw [Nat.testBit_lt_two_pow (by omega), Nat.testBit_lt_two_pow (by omega)]
theorem rank_loop {w : Nat → Int32} : ∀ (N : Nat) (T : List Nat) (a k : Nat), T.length + k ≤ 5 → T.length < N → T.Nodup → (∀ c, c ∈ T → c < 5) → T.Pairwise (bef w) → f_Scene_rank_9 w N (nI a) (nI (maskN (fun c => decide (c ∈ T)) 5)) (nI k) = some (nI (figN T a)) := by
  intro N
  induction N with
  | zero => intro T a k h1 h2; omega
  | succ N ih =>
    intro T a k h1 h2 hn h5 hs
    show f_Scene_rank_9_b _ _ _ _ _ = _
    unfold f_Scene_rank_9_b f_Scene_rank_50
    cases T with
    | nil =>
      have : maskN (fun c => decide (c ∈ ([] : List Nat))) 5 = 0 := by simp [maskN]
      rw [this]
      split
      · rfl
      · rw [if_pos (show nI 0 = 0 from rfl)]; rfl
    | cons b t =>
      simp only [List.length_cons] at h1 h2
      have hb5 := h5 b List.mem_cons_self
      have hm := mask5 (fun c => decide (c ∈ b :: t)) (n := 5) (by omega)
      rw [if_neg (show ¬ (5 : Int32) ≤ nI k from nI_ge (b := 5) (by omega) (by omega))]
      have hbit : (maskN (fun c => decide (c ∈ b :: t)) 5).testBit b = true := by rw [maskN_bit]; simp [hb5]
      have hne : maskN (fun c => decide (c ∈ b :: t)) 5 ≠ 0 := by
        intro e; rw [e] at hbit; simp at hbit
      rw [if_neg (nI_ne0 (by omega) (by omega)), firstOf_eq h5 hs]
      simp only [Option.bind_some, hdI]
      rw [sm_clr _ hm b hb5]
      have hcl : maskN (fun c => decide (c ∈ b :: t)) 5 &&& (31 - 2 ^ b) = maskN (fun c => decide (c ∈ t)) 5 := by
        apply ext5 (Nat.lt_of_le_of_lt Nat.and_le_left hm) (mask5 _ (by omega))
        intro j hj
        rw [Nat.testBit_and, sm_clrb b hb5 j hj, maskN_bit, maskN_bit]
        have hbt : b ∉ t := (List.nodup_cons.mp hn).1
        by_cases hjb : j = b
        · subst hjb; simp [hbt]
        · simp [hjb]
      rw [hcl, show nI a * 10 + nI b + 1 = nI (10 * a + b + 1) by rw [show (10 : Int32) = nI 10 from rfl, pk_mul, nI_add, nI_1]; congr 1; omega, nI_1]
      exact ih t _ (k + 1) (by omega) (by omega) (List.nodup_cons.mp hn).2 (fun c hc => h5 c (List.mem_cons_of_mem _ hc)) (List.pairwise_cons.mp hs).2
theorem rank_eq {w : Nat → Int32} {L : List Nat} (h : RankOK w L) : f_Scene_rank w = some (nI (figN L 0)) := by
  unfold f_Scene_rank
  rw [waiting_eq]
  simp only [Option.bind_some]
  rw [mask_rank h]
  have := rank_len h
  exact rank_loop 300 L 0 0 (by omega) (by omega) h.1 (fun c hc => ((h.2.1 c).mp hc).1) h.2.2
/-! one is sent off -/
theorem rank_tail {w : Nat → Int32} {a : Nat} {t : List Nat} (h : RankOK w (a :: t)) : RankOK (upd w a (-9)) t := by
  have hn := List.nodup_cons.mp h.1
  have hne : ∀ c, c ∈ t → c ≠ a := fun c hc e => hn.1 (e ▸ hc)
  refine ⟨hn.2, fun c => ?_, ?_⟩
  · by_cases hc : c = a
    · subst hc
      rw [up_s]
      exact ⟨fun h1 => absurd h1 hn.1, fun h1 => absurd rfl h1.2⟩
    · rw [up_n hc, ← h.2.1 c, List.mem_cons]
      exact ⟨Or.inr, fun h1 => h1.resolve_left hc⟩
  · refine List.Pairwise.imp_of_mem ?_ (List.pairwise_cons.mp h.2.2).2
    intro x y hx hy hxy
    rw [up_n (hne x hx), up_n (hne y hy)]
    exact hxy
theorem rank_filter {w : Nat → Int32} {a : Nat} {t : List Nat} (h : RankOK w (a :: t)) : (a :: t).filter (fun c => c != a) = t := by
  have hn := List.nodup_cons.mp h.1
  rw [List.filter_cons, if_neg (by simp), List.filter_eq_self]
  intro c hc
  have : c ≠ a := fun e => hn.1 (e ▸ hc)
  simp [this]
theorem letGo_n {w : Nat → Int32} {c : Nat} (hc : c < 5) (h : w c ≠ -9) : f_Scene_letGo (nI c) w = some (1, upd w c (-9)) := by
  unfold f_Scene_letGo f_Scene_letGo_15 f_Scene_letGo_28
  rw [waited_n hc]
  simp only [Option.bind_some, h, if_false, show ¬ ((1 : Int32) = 0) by decide]
  rw [wr_n hc (by omega)]
  rfl
theorem letGo_m9 {w : Nat → Int32} : f_Scene_letGo (-9) w = some (0, w) := by
  unfold f_Scene_letGo f_Scene_letGo_15 f_Scene_letGo_28
  rw [waited_m9]
  rfl
theorem Wb_up {K n c : Nat} {w : Nat → Int32} (h : Wb K n w) : Wb K n (upd w c (-9)) := by
  refine ⟨fun d hd => ?_, fun d h1 h2 => ?_⟩
  · by_cases hdc : d = c
    · subst hdc; rw [up_s]; exact Or.inl rfl
    · rw [up_n hdc]; exact h.1 d hd
  · by_cases hdc : d = c
    · subst hdc; rw [up_s]
    · rw [up_n hdc]; exact h.2 d h1 h2
/-- the first one goes: the page of the model -/
theorem send_R {K n : Nat} {off w pg : Nat → Int32} {nt : Int32} {a : Nat} {t : List Nat} (ho : Ob off) (hw : Wb K n w) (hL : RankOK w (a :: t)) (hp : PageIs pg off w nt (a :: t)) : ∃ pg', f_PM_goAway (nI a) pg = some pg' ∧ SceneR K n off (upd w a (-9)) nt pg' := by
  obtain ⟨pg', e1, e2⟩ := goAway_eq ((hL.2.1 a).mp List.mem_cons_self).1 hp
  rw [rank_filter hL] at e2
  exact ⟨pg', e1, ho, Wb_up hw, t, rank_tail hL, e2⟩
