/-! two who wait: none at rest; chances -/
def bwB (k a b : Nat) : Bool := f_PR_isBestWait (nI k) (nI a) (nI b) == some 1
theorem bw_eq : ∀ k, k < 4 → ∀ a, a < 4 → ∀ b, b < 4 → f_PR_isBestWait (nI k) (nI a) (nI b) = some (if bwB k a b then 1 else 0) := by decide +kernel
theorem bw_no : ∀ k, k < 4 → ∀ j, j < 4 → ∀ a, a < 4 → ∀ b, b < 4 → (bwB k a b && bwB j b a) = false := by decide +kernel
theorem restsC {n c d kc kd : Nat} (hn : n ≤ 5) (hc : c < n) (hd : d < n) {kinds : Nat → Int32} (hkc : kc < 4) (hkd : kd < 4) (e1 : kinds c = nI kc) (e2 : kinds d = nI kd) (i : Int32) : f_PR_rests_49 (nI n) kinds 300 (nI c) (nI d) i 0 (-9) 0 = some (if i = 0 then 0 else -9) := by
  show f_PR_rests_49 (nI n) kinds 300 (nI c) (nI d) i 0 (-9) (nI 0) = _
  refine lpS (fun N a => f_PR_rests_49 (nI n) kinds N (nI c) (nI d) i 0 (-9) (nI a)) 4 _ ?_ ?_ 300 0 (by omega) (by omega)
  · intro N a ha
    show f_PR_rests_49_b _ _ _ _ _ _ _ _ _ = _
    unfold f_PR_rests_49_b
    rw [if_neg (show ¬ (4 : Int32) ≤ nI a from nI_ge (b := 4) ha (by omega))]
    show f_PR_rests_58 (f_PR_rests_49 (nI n) kinds N) (nI n) kinds 300 (nI c) (nI d) i 0 (-9) (nI a) (nI 0) = _
    refine lpS (fun M b => f_PR_rests_58 (f_PR_rests_49 (nI n) kinds N) (nI n) kinds M (nI c) (nI d) i 0 (-9) (nI a) (nI b)) 4 _ ?_ ?_ 300 0 (by omega) (by omega)
    · intro M b hb
      show f_PR_rests_58_b _ _ _ _ _ _ _ _ _ _ _ = _
      unfold f_PR_rests_58_b f_PR_rests_125
      rw [if_neg (show ¬ (4 : Int32) ≤ nI b from nI_ge (b := 4) hb (by omega)), hk_ hc hn, Option.bind_some, e1, bw_eq kc hkc a ha b hb, Option.bind_some]
      have hno := bw_no kc hkc kd hkd a ha b hb
      cases h1 : bwB kc a b
      · rw [if_pos (by simp), nI_1]
      · rw [h1] at hno
        simp only [Bool.true_and] at hno
        rw [if_neg (by simp), hk_ hd hn, Option.bind_some, e2, bw_eq kd hkd b hb a ha, Option.bind_some, hno, if_pos (by simp), nI_1]
    · intro M
      show f_PR_rests_58_b _ _ _ _ _ _ _ _ _ _ _ = _
      unfold f_PR_rests_58_b
      rw [if_pos (show (4 : Int32) ≤ nI 4 by decide), nI_1]
  · intro N
    show f_PR_rests_49_b _ _ _ _ _ _ _ _ _ = _
    unfold f_PR_rests_49_b f_PR_rests_148
    rw [if_pos (show (4 : Int32) ≤ nI 4 by decide)]
    by_cases h0 : i = 0 <;> simp [h0]
/-- the model's gain, by whether it is a wise one -/
def gvI (p : Bool) (own other : Nat) : Int32 := (if own ≤ other then 0 else if p then 5 else 4) - nI own
theorem gain_eq {c kc a b : Nat} (hc : c < 5) {cab : Nat → Int32} (e : cab (6 * c) = nI kc) (hkc : kc < 4) (ha : a < 4) (hb : b < 4) : f_PM_gainOf (nI c) (nI a) (nI b) cab = some (gvI (kc == 2) a b) := by
  unfold f_PM_gainOf f_PM_gainOf_27 gvI
  rw [show (6 : Int32) * nI c = nI (6 * c) by rw [show (6 : Int32) = nI 6 from rfl, pk_mul], rd_n (by omega) (by omega), e, Option.bind_some]
  by_cases h1 : a ≤ b
  · rw [if_pos (nI_le h1 (by omega)), if_pos h1]
  · rw [if_neg (nI_ge (by omega) (by omega)), if_neg h1]
    rcases (show kc = 0 ∨ kc = 1 ∨ kc = 2 ∨ kc = 3 by omega) with rfl | rfl | rfl | rfl <;> rfl
def restB (p q : Bool) (a b : Nat) : Nat → Bool
  | 0 => true
  | k + 1 => restB p q a b k && (decide (gvI p k b ≤ gvI p a b) && decide (gvI q k a ≤ gvI q b a))
theorem rest_no : ∀ p q : Bool, ∀ a, a < 4 → ∀ b, b < 4 → restB p q a b 4 = false := by decide +kernel
theorem restsM {c d kc kd : Nat} (hc : c < 5) (hd : d < 5) {cab : Nat → Int32} (hkc : kc < 4) (hkd : kd < 4) (e1 : cab (6 * c) = nI kc) (e2 : cab (6 * d) = nI kd) (x y : Int32) : f_PM_findRests (nI c) (nI d) cab x y = some (0, -9) := by
  unfold f_PM_findRests
  show f_PM_findRests_13 cab 300 (nI c) (nI d) (nI 0) 0 (-9) = _
  refine lpS (fun N a => f_PM_findRests_13 cab N (nI c) (nI d) (nI a) 0 (-9)) 4 _ ?_ ?_ 300 0 (by omega) (by omega)
  · intro N a ha
    show f_PM_findRests_13_b _ _ _ _ _ _ _ = _
    unfold f_PM_findRests_13_b
    rw [if_neg (show ¬ (4 : Int32) ≤ nI a from nI_ge (b := 4) ha (by omega))]
    show f_PM_findRests_21 (f_PM_findRests_13 cab N) cab 300 (nI c) (nI d) (nI a) (nI 0) 0 (-9) = _
    refine lpS (fun M b => f_PM_findRests_21 (f_PM_findRests_13 cab N) cab M (nI c) (nI d) (nI a) (nI b) 0 (-9)) 4 _ ?_ ?_ 300 0 (by omega) (by omega)
    · intro M b hb
      show f_PM_findRests_21_b _ _ _ _ _ _ _ _ _ = _
      unfold f_PM_findRests_21_b
      rw [if_neg (show ¬ (4 : Int32) ≤ nI b from nI_ge (b := 4) hb (by omega))]
      have hk : f_PM_findRests_33 (f_PM_findRests_13 cab N) (f_PM_findRests_21 (f_PM_findRests_13 cab N) cab M) cab 300 (nI c) (nI d) (nI a) (nI b) 1 0 0 (-9) = f_PM_findRests_33 (f_PM_findRests_13 cab N) (f_PM_findRests_21 (f_PM_findRests_13 cab N) cab M) cab 300 (nI c) (nI d) (nI a) (nI b) (if restB (kc == 2) (kd == 2) a b 0 = true then 1 else 0) (nI 0) 0 (-9) := rfl
      rw [hk]
      refine lpS (fun J k => f_PM_findRests_33 (f_PM_findRests_13 cab N) (f_PM_findRests_21 (f_PM_findRests_13 cab N) cab M) cab J (nI c) (nI d) (nI a) (nI b) (if restB (kc == 2) (kd == 2) a b k = true then 1 else 0) (nI k) 0 (-9)) 4 _ ?_ ?_ 300 0 (by omega) (by omega)
      · intro J k hk
        show f_PM_findRests_33_b _ _ _ _ _ _ _ _ _ _ _ _ = _
        unfold f_PM_findRests_33_b f_PM_findRests_87 f_PM_findRests_88
        rw [if_neg (show ¬ (4 : Int32) ≤ nI k from nI_ge (b := 4) hk (by omega)), gain_eq hc e1 hkc hk hb, gain_eq hc e1 hkc ha hb, gain_eq hd e2 hkd hk ha, gain_eq hd e2 hkd hb ha, Option.bind_some, Option.bind_some, Option.bind_some, Option.bind_some, nI_1]
        have hun : restB (kc == 2) (kd == 2) a b (k + 1) = (restB (kc == 2) (kd == 2) a b k && (decide (gvI (kc == 2) k b ≤ gvI (kc == 2) a b) && decide (gvI (kd == 2) k a ≤ gvI (kd == 2) b a))) := rfl
        rw [hun]
        cases h1 : restB (kc == 2) (kd == 2) a b k
        · rw [if_pos (by simp), if_neg (by simp)]
        · rw [if_neg (by simp)]
          by_cases h2 : gvI (kc == 2) k b ≤ gvI (kc == 2) a b
          · rw [if_neg (Int32.not_lt.mpr h2)]
            by_cases h3 : gvI (kd == 2) k a ≤ gvI (kd == 2) b a
            · rw [if_neg (Int32.not_lt.mpr h3), if_pos (by simp [h2, h3])]
            · rw [if_pos (Int32.not_le.mp h3), if_neg (by simp [h3])]
          · rw [if_pos (Int32.not_le.mp h2), if_neg (by simp [h2])]
      · intro J
        rw [rest_no _ _ a ha b hb]
        show f_PM_findRests_33_b _ _ _ _ _ _ _ _ _ _ _ _ = _
        unfold f_PM_findRests_33_b f_PM_findRests_119 f_PM_findRests_123 f_PM_findRests_141
        rw [if_pos (show (4 : Int32) ≤ nI 4 by decide), if_neg (show ¬ (false = true) by decide), if_pos (show (0 : Int32) = 0 from rfl), if_pos (show (0 : Int32) = 0 from rfl), nI_1]
        rfl
    · intro M
      show f_PM_findRests_21_b _ _ _ _ _ _ _ _ _ = _
      unfold f_PM_findRests_21_b
      rw [if_pos (show (4 : Int32) ≤ nI 4 by decide), nI_1]
  · intro N
    show f_PM_findRests_13_b _ _ _ _ _ _ _ = _
    unfold f_PM_findRests_13_b
    rw [if_pos (show (4 : Int32) ≤ nI 4 by decide)]
theorem op_rests {n : Nat} {lay kinds pats wanted layer cab : Nat → Int32} {th x y : Int32} (hH : HallR n lay kinds pats wanted layer cab) (i j k : Int32) : ∃ r r', f_PR_rests i j k (nI n) kinds = some r ∧ f_PM_rests i j k (nI n) cab th x y = some r' ∧ r = r'.1 := by
  have hn := hH.1
  unfold f_PR_rests f_PR_rests_22 f_PR_rests_36 f_PM_rests f_PM_rests_21 f_PM_rests_38 f_PM_rests_62
  rcases cabm hn i with ⟨c, hc, rfl, e1, e2⟩ | ⟨e1, e2, -⟩
  · rw [e1, e2, Option.bind_some, Option.bind_some, if_neg (show ¬ ((1 : Int32) = 0) by decide), if_pos (show (0 : Int32) = 0 from rfl)]
    rcases cabm hn j with ⟨d, hd, rfl, e3, e4⟩ | ⟨e3, e4, -⟩
    · rw [e3, e4, Option.bind_some, Option.bind_some, if_neg (show ¬ ((1 : Int32) = 0) by decide), if_pos (show (0 : Int32) = 0 from rfl)]
      by_cases hcd : nI c = nI d
      · rw [if_pos hcd, if_pos hcd]; exact ⟨_, _, rfl, rfl, rfl⟩
      · rw [if_neg hcd, if_neg hcd]
        rcases one2 k with ⟨-, e5, e6⟩ | ⟨e5, e6⟩
        · obtain ⟨⟨h1, kc, hkc, h1e⟩, -⟩ := hH.2.2 c hc
          obtain ⟨⟨h2, kd, hkd, h2e⟩, -⟩ := hH.2.2 d hd
          rw [e5, e6, Option.bind_some, Option.bind_some, if_neg (show ¬ ((1 : Int32) = 0) by decide), if_neg (show ¬ ((1 : Int32) = 0) by decide), restsC hn hc hd hkc hkd h1e h2e, restsM (by omega) (by omega) hkc hkd (h1.trans h1e) (h2.trans h2e), Option.bind_some]
          by_cases h0 : k = 0
          · rw [if_pos h0, if_pos h0]; exact ⟨_, _, rfl, rfl, rfl⟩
          · rw [if_neg h0, if_neg h0]; exact ⟨_, _, rfl, rfl, rfl⟩
        · rw [e5, e6]; exact ⟨_, _, rfl, rfl, rfl⟩
    · rw [e3, e4]; exact ⟨_, _, rfl, rfl, rfl⟩
  · rw [e1, e2]; exact ⟨_, _, rfl, rfl, rfl⟩
