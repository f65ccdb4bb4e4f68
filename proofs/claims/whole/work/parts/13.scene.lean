/-! scenes, pages and the rank -/
theorem lpI {σ ρ : Type} (F : Nat → Nat → σ → Option ρ) (I : Nat → σ → Prop) (e : Nat) (Post : ρ → Prop) (hs : ∀ n k s, k < e → I k s → ∃ s', I (k + 1) s' ∧ F (n + 1) k s = F n (k + 1) s') (hx : ∀ n s, I e s → ∃ r, F (n + 1) e s = some r ∧ Post r) : ∀ N k s, k ≤ e → e - k < N → I k s → ∃ r, F N k s = some r ∧ Post r := by
  intro N
  induction N with
  | zero => intro k s h1 h2; omega
  | succ N ih =>
    intro k s h1 h2 hI
    by_cases h : k = e
    · subst h; exact hx N s hI
    · obtain ⟨s', h3, h4⟩ := hs N k s (by omega) hI
      rw [h4]
      exact ih (k + 1) s' (by omega) (by omega) h3
def HallR (n : Nat) (lay kinds pats wanted layer cab : Nat → Int32) : Prop :=
  n ≤ 5 ∧ (∀ j, j < 12 → layer j = lay j ∧ ∃ x, x < 3 ∧ lay j = nI x) ∧ ∀ c, c < n → (cab (6 * c) = kinds c ∧ ∃ x, x < 4 ∧ kinds c = nI x) ∧ (cab (6 * c + 1) = pats c ∧ ∃ x, x < 10 ∧ pats c = nI x) ∧ ∀ f, f < 4 → cab (6 * c + 2 + f) = wanted (4 * c + f) ∧ ∃ x, x < 4 ∧ wanted (4 * c + f) = nI x
def RankOK (w : Nat → Int32) (L : List Nat) : Prop :=
  L.Nodup ∧ (∀ c, c ∈ L ↔ c < 5 ∧ w c ≠ -9) ∧ L.Pairwise (fun a b => w b < w a ∨ (w a = w b ∧ a < b))
def PageIs (pg off w : Nat → Int32) (nt : Int32) (L : List Nat) : Prop :=
  (∀ f, f < 4 → pg f = off f) ∧ (∀ c, c < 5 → pg (10 + c) = w c) ∧ pg 15 = nt ∧ pg 4 = nI L.length ∧ (∀ i, i < L.length → pg (5 + i) = nI (L.getD i 0)) ∧ L.length ≤ 5 ∧ ∀ c, c ∈ L → c < 5
/-- how long they have waited: none, or a small number -/
def Wb (K n : Nat) (w : Nat → Int32) : Prop := (∀ c, c < 5 → w c = -9 ∨ ∃ x, x ≤ K ∧ w c = nI x) ∧ ∀ c, n ≤ c → c < 5 → w c = -9
def Ob (off : Nat → Int32) : Prop := ∀ f, f < 4 → ∃ x, x < 3 ∧ off f = nI x
def SceneR (K n : Nat) (off w : Nat → Int32) (nt : Int32) (pg : Nat → Int32) : Prop :=
  Ob off ∧ Wb K n w ∧ ∃ L, RankOK w L ∧ PageIs pg off w nt L
theorem nd_len : ∀ (n : Nat) (L : List Nat), L.Nodup → (∀ c, c ∈ L → c < n) → L.length ≤ n
  | 0, L, _, h => by
    cases L with
    | nil => simp
    | cons a t => exact absurd (h a List.mem_cons_self) (by omega)
  | n + 1, L, hn, h => by
    by_cases hm : n ∈ L
    · have h1 := nd_len n (L.erase n) (hn.erase n) (fun c hc => by
        have h2 := (hn.mem_erase_iff).mp hc
        have h3 := h c h2.2
        have h4 := h2.1
        omega)
      rw [List.length_erase_of_mem hm] at h1
      omega
    · have h1 := nd_len n L hn (fun c hc => by
        have h3 := h c hc
        have h4 : c ≠ n := fun e => hm (e ▸ hc)
        omega)
      omega
theorem rank_len {w : Nat → Int32} {L : List Nat} (h : RankOK w L) : L.length ≤ 5 := nd_len 5 L h.1 (fun c hc => ((h.2.1 c).mp hc).1)
theorem gD_l {a b : List Nat} {i : Nat} (h : i < a.length) : (a ++ b).getD i 0 = a.getD i 0 := by
  rw [List.getD_eq_getElem?_getD, List.getD_eq_getElem?_getD, List.getElem?_append_left h]
theorem gD_e {a : List Nat} {v : Nat} : (a ++ [v]).getD a.length 0 = v := by
  rw [List.getD_eq_getElem?_getD, List.getElem?_append_right (Nat.le_refl _)]; simp
theorem gD_mem {L : List Nat} {k : Nat} (h : k < L.length) : L.getD k 0 ∈ L := by
  rw [List.getD_eq_getElem?_getD, List.getElem?_eq_getElem h]; simp
theorem tk_1 {L : List Nat} {k : Nat} (h : k < L.length) : L.take (k + 1) = L.take k ++ [L.getD k 0] := by
  rw [List.take_add_one, List.getD_eq_getElem?_getD, List.getElem?_eq_getElem h]; rfl
/-! one goes -/
theorem goAway_eq {pg off w : Nat → Int32} {nt : Int32} {L : List Nat} {c : Nat} (hc : c < 5) (h : PageIs pg off w nt L) : ∃ pg', f_PM_goAway (nI c) pg = some pg' ∧ PageIs pg' off (upd w c (-9)) nt (L.filter (fun a => a != c)) := by
  obtain ⟨h1, h2, h3, h4, h5, h6, h7⟩ := h
  refine lpI (fun N k (s : Int32 × (Nat → Int32)) => f_PM_goAway_4 N (nI c) s.1 (nI k) s.2)
    (fun k s => s.1 = nI ((L.take k).filter (fun a => a != c)).length ∧ (∀ j, j < 5 ∨ 10 ≤ j → s.2 j = pg j) ∧ (∀ i, i < ((L.take k).filter (fun a => a != c)).length → s.2 (5 + i) = nI (((L.take k).filter (fun a => a != c)).getD i 0)) ∧ ∀ i, k ≤ i → i < L.length → s.2 (5 + i) = nI (L.getD i 0))
    L.length _ ?_ ?_ 300 0 (0, pg) (Nat.zero_le _) (by omega) ⟨rfl, fun j _ => rfl, fun i hi => by simp at hi, fun i _ hi => h5 i hi⟩
  · rintro N k ⟨x2, p⟩ hk ⟨e1, e2, e3, e4⟩
    dsimp only at e1 e2 e3 e4
    have hm : ((L.take k).filter (fun a => a != c)).length ≤ k := Nat.le_trans (List.length_filter_le _ _) (by simp; omega)
    have htk := tk_1 hk
    have hlk : L.getD k 0 < 5 := h7 _ (gD_mem hk)
    have e5 := e4 k (Nat.le_refl k) hk
    generalize L.getD k 0 = v at htk hlk e5
    generalize hfl : (L.take k).filter (fun a => a != c) = fl at e1 e3 hm
    have hF : f_PM_goAway_4 (N + 1) (nI c) x2 (nI k) p = if v = c then f_PM_goAway_4 N (nI c) x2 (nI (k + 1)) p else f_PM_goAway_4 N (nI c) (nI (fl.length + 1)) (nI (k + 1)) (upd p (5 + fl.length) (nI v)) := by
      show f_PM_goAway_4_b _ _ _ _ _ = _
      unfold f_PM_goAway_4_b f_PM_goAway_33
      rw [show (4 : Int32) = nI 4 from rfl, rd_n (by omega) (by omega), e2 4 (by omega), h4]
      simp only [Option.bind_some]
      rw [if_neg (nI_ge hk (by omega)), show (5 : Int32) = nI 5 from rfl, nI_add, rd_n (by omega) (by omega), e5]
      simp only [Option.bind_some, nI_1]
      by_cases hq : v = c
      · rw [if_pos (by rw [hq]), if_pos hq]
      · rw [if_neg (fun e => hq (nI_inj (by omega) (by omega) e)), if_neg hq, e1, nI_add, wr_n (by omega) (by omega)]
        simp only [Option.bind_some, nI_1]
    by_cases hq : v = c
    · refine ⟨(x2, p), ⟨?_, e2, ?_, fun i hi => e4 i (by omega)⟩, ?_⟩
      · dsimp only; rw [htk, List.filter_append, hfl, e1]; simp [hq]
      · rw [htk, List.filter_append, hfl]; rw [show [v].filter (fun a => a != c) = [] by simp [hq], List.append_nil]; exact e3
      · rw [hF, if_pos hq]
    · have hft : (L.take (k + 1)).filter (fun a => a != c) = fl ++ [v] := by
        rw [htk, List.filter_append, hfl]; simp [hq]
      refine ⟨(nI (fl.length + 1), upd p (5 + fl.length) (nI v)), ⟨?_, ?_, ?_, ?_⟩, ?_⟩
      · rw [hft]; simp
      · intro j hj
        dsimp only
        rw [up_n (by omega)]; exact e2 j hj
      · rw [hft]
        intro i hi
        dsimp only
        simp only [List.length_append, List.length_cons, List.length_nil] at hi
        by_cases hi2 : i = fl.length
        · subst hi2; rw [up_s, gD_e]
        · rw [up_n (by omega), e3 i (by omega), gD_l (by omega)]
      · intro i hi1 hi2
        dsimp only
        rw [up_n (by omega)]; exact e4 i (by omega) hi2
      · rw [hF, if_neg hq]
  · rintro N ⟨x2, p⟩ ⟨e1, e2, e3, e4⟩
    dsimp only at e1 e2 e3 e4
    rw [List.take_length] at e1 e3
    have hm : (L.filter (fun a => a != c)).length ≤ L.length := List.length_filter_le _ _
    refine ⟨upd (upd p 4 x2) (10 + c) (-9), ?_, ?_⟩
    · show f_PM_goAway_4_b (f_PM_goAway_4 N) (nI c) x2 (nI L.length) p = _
      unfold f_PM_goAway_4_b
      rw [show (4 : Int32) = nI 4 from rfl, rd_n (by omega) (by omega), e2 4 (by omega), h4]
      simp only [Option.bind_some]
      rw [if_pos (Int32.le_refl _), wr_n (by omega) (by omega), show (10 : Int32) = nI 10 from rfl, nI_add]
      simp only [Option.bind_some]
      rw [wr_n (by omega) (by omega)]
      rfl
    · refine ⟨fun f hf => ?_, fun d hd => ?_, ?_, ?_, fun i hi => ?_, by omega, fun a ha => h7 a (List.mem_filter.mp ha).1⟩
      · rw [up_n (by omega), up_n (by omega), e2 f (by omega)]; exact h1 f hf
      · by_cases hdc : d = c
        · subst hdc; rw [up_s, up_s]
        · rw [up_n (by omega), up_n (by omega), up_n hdc, e2 _ (by omega)]; exact h2 d hd
      · rw [up_n (by omega), up_n (by omega), e2 _ (by omega)]; exact h3
      · rw [up_n (by omega), up_s]; exact e1
      · rw [up_n (by omega), up_n (by omega)]; exact e3 i hi
