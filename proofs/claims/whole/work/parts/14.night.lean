/-! a night: the class's side -/
def fillN (g w : Nat → Int32) (k : Nat) : Nat → Int32 := fun c => if c < k then g c else w c
theorem fillN_s {g w : Nat → Int32} {k : Nat} {x : Int32} (h : x = g k) : upd (fillN g w k) k x = fillN g w (k + 1) := by
  funext c
  by_cases hc : c = k
  · subst hc; rw [up_s, h]; simp [fillN]
  · rw [up_n hc]
    unfold fillN
    by_cases h2 : c < k
    · rw [if_pos h2, if_pos (by omega)]
    · rw [if_neg h2, if_neg (by omega)]
theorem fillN_n {g w : Nat → Int32} {k : Nat} (h : g k = w k) : fillN g w k = fillN g w (k + 1) := by
  funext c
  unfold fillN
  by_cases hc : c = k
  · subst hc; simp [h]
  · by_cases h2 : c < k
    · rw [if_pos h2, if_pos (by omega)]
    · rw [if_neg h2, if_neg (by omega)]
theorem fillN_at {g w : Nat → Int32} {k : Nat} : fillN g w k k = w k := by simp [fillN]
theorem fillN_0 {g w : Nat → Int32} : fillN g w 0 = w := by funext c; simp [fillN]
theorem fillN_in {g w : Nat → Int32} {k c : Nat} (h : c < k) : fillN g w k c = g c := by simp [fillN, h]
theorem fillN_out {g w : Nat → Int32} {k c : Nat} (h : k ≤ c) : fillN g w k c = w c := by simp [fillN, Nat.not_lt.mpr h]
theorem up_up {f : Nat → Int32} {k : Nat} {x y : Int32} : upd (upd f k x) k y = upd f k y := by
  funext c
  by_cases hc : c = k
  · subst hc; rw [up_s, up_s]
  · rw [up_n hc, up_n hc, up_n hc]
def stayB (kd pt wv : Int32) (hb : Bool) : Bool := decide (wv + 1 < pt) || (kd == 3 && hb)
/-- how long one has waited behind a night -/
def nwC (n : Nat) (H : Nat → Bool) (kinds pats w : Nat → Int32) (c : Nat) : Int32 :=
  if w c = -9 then (if (decide (c < n) && H c) = true then 0 else -9) else if stayB (kinds c) (pats c) (w c) (decide (c < n) && H c) = true then w c + 1 else -9
theorem pass_eq {n : Nat} (hn : n ≤ 5) {H : Nat → Bool} {kinds pats w : Nat → Int32} {nt : Int32} (hw : ∀ c, n ≤ c → c < 5 → w c = -9) : f_Scene_pass (nI (maskN H n)) (nI n) kinds pats nt w = some (nt + 1, fillN (nwC n H kinds pats w) w 5) := by
  have h0 : f_Scene_pass (nI (maskN H n)) (nI n) kinds pats nt w = f_Scene_pass_2 (nI n) kinds pats 300 (nI (maskN H n)) (nI 0) nt (fillN (nwC n H kinds pats w) w 0) := by rw [fillN_0]; rfl
  rw [h0]
  refine lpS (fun N k => f_Scene_pass_2 (nI n) kinds pats N (nI (maskN H n)) (nI k) nt (fillN (nwC n H kinds pats w) w k)) 5 _ ?_ ?_ 300 0 (by omega) (by omega)
  · intro N k hk
    show f_Scene_pass_2_b _ _ _ _ _ _ _ _ = _
    have hm := mask5 H hn
    unfold f_Scene_pass_2_b f_Scene_pass_21 f_Scene_pass_62 f_Scene_pass_63 f_Scene_pass_92 f_Scene_pass_107
    rw [if_neg (show ¬ (5 : Int32) ≤ nI k from nI_ge (b := 5) hk (by omega)), sm_bit _ hm k hk, maskN_bit]
    simp only [rd_n (f := fillN (nwC n H kinds pats w) w k) hk (by omega : (5 : Nat) < 2 ^ 31), wr_n (f := fillN (nwC n H kinds pats w) w k) hk (by omega : (5 : Nat) < 2 ^ 31), Option.bind_some, fillN_at, nI_1]
    by_cases h1 : w k = -9
    · simp only [h1, if_true]
      cases hb : (decide (k < n) && H k)
      · simp only [Bool.false_eq_true, if_false, if_true, show ¬ ((0 : Int32) = 1) by decide]
        rw [fillN_n (by unfold nwC; rw [if_pos h1, hb]; simp [h1])]
      · simp only [if_true, show ¬ ((1 : Int32) = 0) by decide, if_false]
        rw [fillN_s (by unfold nwC; rw [if_pos h1, hb]; simp)]
    · have hkn : k < n := by
        rcases Nat.lt_or_ge k n with h | h
        · exact h
        · exact absurd (hw k h hk) h1
      simp only [h1, if_false, hk_ hkn hn, hp_ hkn hn, Option.bind_some, hkn, decide_true, Bool.true_and]
      simp only [rd_n (f := upd (fillN (nwC n H kinds pats w) w k) k (w k + 1)) hk (by omega : (5 : Nat) < 2 ^ 31), wr_n (f := upd (fillN (nwC n H kinds pats w) w k) k (w k + 1)) hk (by omega : (5 : Nat) < 2 ^ 31), Option.bind_some, up_s, up_up]
      have e1 : ∀ b : Bool, stayB (kinds k) (pats k) (w k) (H k) = b → nwC n H kinds pats w k = if b then w k + 1 else -9 := by
        intro b hb
        unfold nwC
        rw [if_neg h1, show (decide (k < n) && H k) = H k by simp [hkn], hb]
      cases hb : stayB (kinds k) (pats k) (w k) (H k)
      · have e2 := e1 _ hb
        simp only [stayB, Bool.or_eq_false_iff, decide_eq_false_iff_not, Bool.and_eq_false_iff, beq_eq_false_iff_ne] at hb
        have hgo : upd (fillN (nwC n H kinds pats w) w k) k (-9) = fillN (nwC n H kinds pats w) w (k + 1) := fillN_s (by rw [e2]; simp)
        rcases hb.2 with h2 | h2
        · cases H k <;> simp [hb.1, h2, hgo]
        · simp [hb.1, h2, hgo]
      · have e2 := e1 _ hb
        simp only [stayB, Bool.or_eq_true, decide_eq_true_eq, Bool.and_eq_true, beq_iff_eq] at hb
        have hst : upd (fillN (nwC n H kinds pats w) w k) k (w k + 1) = fillN (nwC n H kinds pats w) w (k + 1) := fillN_s (by rw [e2]; simp)
        rcases hb with h2 | ⟨h2, h3⟩
        · cases H k <;> by_cases h4 : kinds k = 3 <;> simp [h2, h4, hst]
        · simp [h2, h3, hst]
  · intro N
    show f_Scene_pass_2_b _ _ _ _ _ _ _ _ = _
    unfold f_Scene_pass_2_b
    rw [if_pos (show (5 : Int32) ≤ nI 5 by decide)]
theorem waiting_eq {w : Nat → Int32} : f_Scene_waiting w = some (nI (maskN (fun c => !(w c == -9)) 5)) := by
  refine lpS (fun N k => f_Scene_waiting_4 w N (nI (maskN (fun c => !(w c == -9)) k)) (nI k)) 5 _ ?_ ?_ 300 0 (by omega) (by omega)
  · intro N k hk
    show f_Scene_waiting_4_b _ _ _ _ = _
    unfold f_Scene_waiting_4_b f_Scene_waiting_26
    have hm := mask5 (fun c => !(w c == -9)) (n := k) (by omega)
    rw [if_neg (show ¬ (5 : Int32) ≤ nI k from nI_ge (b := 5) hk (by omega)), rd_n hk (by omega)]
    simp only [Option.bind_some, nI_1, sm_or _ hm k hk]
    by_cases h : w k = -9 <;> simp [maskN, h]
  · intro N
    show f_Scene_waiting_4_b _ _ _ _ = _
    unfold f_Scene_waiting_4_b
    rw [if_pos (show (5 : Int32) ≤ nI 5 by decide)]
theorem waitsOf_eq {pg w : Nat → Int32} (h : ∀ c, c < 5 → pg (10 + c) = w c) : f_PM_waitsOf pg = some (nI (maskN (fun c => !(w c == -9)) 5)) := by
  refine lpS (fun N k => f_PM_waitsOf_4 pg N (nI (maskN (fun c => !(w c == -9)) k)) (nI k)) 5 _ ?_ ?_ 300 0 (by omega) (by omega)
  · intro N k hk
    show f_PM_waitsOf_4_b _ _ _ _ = _
    unfold f_PM_waitsOf_4_b f_PM_waitsOf_28
    have hm := mask5 (fun c => !(w c == -9)) (n := k) (by omega)
    rw [if_neg (show ¬ (5 : Int32) ≤ nI k from nI_ge (b := 5) hk (by omega)), show (10 : Int32) = nI 10 from rfl, nI_add, rd_n (by omega) (by omega), h k hk]
    simp only [Option.bind_some, nI_1, sm_or _ hm k hk, sm_or0 _ hm]
    by_cases h : w k = -9 <;> simp [maskN, h]
  · intro N
    show f_PM_waitsOf_4_b _ _ _ _ = _
    unfold f_PM_waitsOf_4_b
    rw [if_pos (show (5 : Int32) ≤ nI 5 by decide)]
