/-! rain by chance -/
/-- the chance of one set of them, as far as bit k -/
def prN (x came : Nat) : Nat → Nat
  | 0 => 1
  | k + 1 => prN x came k * (if came.testBit k then x else 10 - x)
def chN (n x came : Nat) : Nat := x ^ pop5 came * (10 - x) ^ (n - pop5 came)
def topN (n x m : Nat) : Nat → Nat
  | 0 => 0
  | k + 1 => topN n x m k + (if pop5 k < m then 0 else chN n x k)
def botN (n x : Nat) : Nat → Nat
  | 0 => 0
  | k + 1 => botN n x k + chN n x k
theorem pr_ch : ∀ n, n < 6 → ∀ x, x < 11 → ∀ came, came < 2 ^ n → prN x came n = chN n x came ∧ pop5 came ≤ n := by decide +kernel
theorem bot_eq : ∀ n, n < 6 → ∀ x, x < 11 → botN n x (2 ^ n) = 10 ^ n := by decide +kernel
theorem powx : ∀ x, x < 11 → ∀ k, k < 6 → f_PM_power (nI x) (nI k) = some (nI (x ^ k)) := by decide +kernel
theorem pow10' : ∀ n, n < 6 → f_PM_power 10 (nI n) = some (nI (10 ^ n)) := by decide +kernel
theorem sl_2 : ∀ n, n < 6 → slI 1 (nI n) = nI (2 ^ n) ∧ 2 ^ n ≤ 32 := by decide +kernel
theorem frW : ∀ n, n < 6 → ∀ x, x < 11 → ∀ m, m < 6 → (f_PR_fraction (nI (topN n x m (2 ^ n))) (nI (10 ^ n)) 0 = f_PM_fraction (nI (topN n x m (2 ^ n))) (nI (10 ^ n)) 0 ∧ (f_PR_fraction (nI (topN n x m (2 ^ n))) (nI (10 ^ n)) 0).isSome = true) ∧ (f_PR_fraction (nI (topN n x m (2 ^ n))) (nI (10 ^ n)) 1 = f_PM_fraction (nI (topN n x m (2 ^ n))) (nI (10 ^ n)) 1 ∧ (f_PR_fraction (nI (topN n x m (2 ^ n))) (nI (10 ^ n)) 1).isSome = true) := by decide +kernel
theorem wet59 {hc : Int32} {lay kinds wanted off sh : Nat → Int32} {N n x m came t b : Nat} {u : Int32} (hn : n < 6) (hx : x < 11) (hm : m < 6) (hca : came < 2 ^ n) : f_PR_wet_59 (f_PR_wet_44 hc lay kinds wanted off N) hc lay kinds wanted off 300 (nI m) (nI x) u (nI n) (nI t) (nI b) (nI came) 1 0 sh = f_PR_wet_44 hc lay kinds wanted off N (nI m) (nI x) u (nI n) (nI (t + (if pop5 came < m then 0 else chN n x came))) (nI (b + chN n x came)) (nI (came + 1)) sh := by
  have h32 := (sl_2 n hn).2
  obtain ⟨hpr, hpop⟩ := pr_ch n hn x hx came hca
  show f_PR_wet_59 (f_PR_wet_44 hc lay kinds wanted off N) hc lay kinds wanted off 300 (nI m) (nI x) u (nI n) (nI t) (nI b) (nI came) (nI (prN x came 0)) (nI 0) sh = _
  refine lpS (fun J k => f_PR_wet_59 (f_PR_wet_44 hc lay kinds wanted off N) hc lay kinds wanted off J (nI m) (nI x) u (nI n) (nI t) (nI b) (nI came) (nI (prN x came k)) (nI k) sh) n _ ?_ ?_ 300 0 (by omega) (by omega)
  · intro J k hk
    show f_PR_wet_59_b _ _ _ _ _ _ _ _ _ _ _ _ _ _ _ _ _ = _
    unfold f_PR_wet_59_b f_PR_wet_87
    rw [if_neg (nI_ge hk (by omega)), sm_bit came (by omega) k (by omega), show (10 : Int32) - nI x = nI (10 - x) from pk_sub (a := 10) (by omega), nI_1, pk_mul, pk_mul]
    have hp : prN x came (k + 1) = prN x came k * (if came.testBit k then x else 10 - x) := rfl
    rw [hp]
    cases came.testBit k
    · rw [if_neg (by simp)]; rfl
    · rw [if_pos (by simp)]; rfl
  · intro J
    show f_PR_wet_59_b _ _ _ _ _ _ _ _ _ _ _ _ _ _ _ _ _ = _
    unfold f_PR_wet_59_b f_PR_wet_120
    rw [if_pos (Int32.le_refl _), bc5 came (by omega), Option.bind_some, hpr, nI_add, nI_1]
    by_cases hlt : pop5 came < m
    · rw [if_pos (nI_lt hlt (by omega)), if_pos hlt, show nI t + 0 = nI (t + 0) from nI_add t 0]
    · rw [if_neg (nI_nlt (by omega) (by omega)), if_neg hlt, nI_add]
theorem op_wet {K n : Nat} {lay kinds pats wanted layer cab off w pg shC shM : Nat → Int32} {nt th u : Int32} (hH : HallR n lay kinds pats wanted layer cab) (hS : SceneR K n off w nt pg) (i j : Int32) (hu : u = 0 ∨ u = 1) : ∃ r r', f_PR_wet i j u (nI n) lay kinds wanted off shC = some r ∧ f_PM_wet i j u (nI n) layer cab pg th shM = some r' ∧ r.1 = r'.1 := by
  obtain ⟨ho, -, L, -, hp⟩ := hS
  unfold f_PR_wet f_PR_wet_19 f_PM_wet f_PM_wet_29
  rw [in_lit (x := i) (lo := 0) (hi := 5) (by omega) (by omega) (a := 0) (b := 5) rfl rfl, in_lit (x := j) (lo := 0) (hi := 10) (by omega) (by omega) (a := 0) (b := 10) rfl rfl, Option.bind_some]
  by_cases h : 0 ≤ i.toInt ∧ i.toInt ≤ 5
  · obtain ⟨m, hm, rfl, hm2⟩ := i_nI h.1
    rw [if_pos (show ((0 : Nat) : Int) ≤ (nI m).toInt ∧ (nI m).toInt ≤ ((5 : Nat) : Int) from h), if_neg (show ¬ ((1 : Int32) = 0) by decide), if_neg (nI_pos hm), if_neg (show ¬ (5 : Int32) < nI m from nI_nlt (a := 5) (by omega) (by omega)), Option.bind_some]
    by_cases hj : 0 ≤ j.toInt ∧ j.toInt ≤ 10
    · obtain ⟨x, hx, rfl, hx2⟩ := i_nI hj.1
      rw [if_pos (show ((0 : Nat) : Int) ≤ (nI x).toInt ∧ (nI x).toInt ≤ ((10 : Nat) : Int) from hj), if_neg (show ¬ ((1 : Int32) = 0) by decide), if_neg (nI_pos hx), if_pos (show nI x ≤ 10 from nI_le (b := 10) (by omega) (by omega)), hailedIn_eq hH.1 ho, Option.bind_some, layShown_eq (fun j hj => (hH.2.1 j hj).1) ho hp.1, Option.bind_some, called15 hH ho (fun f hf => fillN_in hf), Option.bind_some, mn5 _ (mask5 _ hH.1), Option.bind_some]
      dsimp only
      rw [bc5 _ (mask5 _ hH.1), Option.bind_some]
      have hq := pop5_le _ (mask5 (HC lay kinds wanted off) hH.1)
      generalize pop5 (maskN (HC lay kinds wanted off) n) = q at hq ⊢
      obtain ⟨hsl, h32⟩ := sl_2 q (by omega)
      refine lpJ (fun N k (_ : Unit) => f_PR_wet_44 (nI n) lay kinds wanted off N (nI m) (nI x) u (nI q) (nI (topN q x m k)) (nI (botN q x k)) (nI k) (fillN (shN lay off) shC 4))
        (fun N k (_ : Unit) => f_PM_wet_57 (nI n) layer cab pg N (nI m) (nI x) u (nI q) (nI (topN q x m k)) (nI k) 0 (fillN (shN lay off) shM 4))
        (fun _ _ _ => True) (2 ^ q) (fun r r' => r.1 = r'.1) ?_ ?_ (2 ^ q) 0 () () 300 300 (by omega) (by omega) (by omega) trivial
      · rintro N M k ⟨⟩ ⟨⟩ hk -
        left
        refine ⟨(), (), trivial, ?_, ?_⟩
        · show f_PR_wet_44_b _ _ _ _ _ _ _ _ _ _ _ _ _ _ = _
          unfold f_PR_wet_44_b
          rw [hsl, if_neg (nI_ge hk (by omega)), wet59 (by omega) (by omega) (by omega) hk]
          rfl
        · obtain ⟨-, hpop⟩ := pr_ch q (by omega) x (by omega) k hk
          show f_PM_wet_57_b _ _ _ _ _ _ _ _ _ _ _ _ _ = _
          unfold f_PM_wet_57_b f_PM_wet_104
          rw [hsl, if_neg (nI_ge hk (by omega)), mn5 k (by omega), Option.bind_some, powx x (by omega) _ (by omega), Option.bind_some, show (10 : Int32) - nI x = nI (10 - x) from pk_sub (a := 10) (by omega), pk_sub hpop, powx (10 - x) (by omega) _ (by omega), Option.bind_some, nI_1]
          have ht : topN q x m (k + 1) = topN q x m k + (if pop5 k < m then 0 else chN q x k) := rfl
          rw [ht]
          by_cases hlt : pop5 k < m
          · rw [if_pos (nI_lt hlt (by omega)), if_pos hlt, show nI (topN q x m k) + 0 = nI (topN q x m k + 0) from nI_add _ 0]
          · rw [if_neg (nI_nlt (by omega) (by omega)), if_neg hlt, pk_mul, nI_add]; rfl
      · rintro N M ⟨⟩ ⟨⟩ -
        have hfr : ∃ v, f_PR_fraction (nI (topN q x m (2 ^ q))) (nI (10 ^ q)) u = some v ∧ f_PM_fraction (nI (topN q x m (2 ^ q))) (nI (10 ^ q)) u = some v := by
          have h := frW q (by omega) x (by omega) m (by omega)
          rcases hu with rfl | rfl
          · obtain ⟨v, hv⟩ := Option.isSome_iff_exists.mp h.1.2
            exact ⟨v, hv, by rw [← h.1.1]; exact hv⟩
          · obtain ⟨v, hv⟩ := Option.isSome_iff_exists.mp h.2.2
            exact ⟨v, hv, by rw [← h.2.1]; exact hv⟩
        obtain ⟨v, hv1, hv2⟩ := hfr
        refine ⟨(v, fillN (shN lay off) shC 4), (v, 0, fillN (shN lay off) shM 4), ?_, ?_, rfl⟩
        · show f_PR_wet_44_b _ _ _ _ _ _ _ _ _ _ _ _ _ _ = _
          unfold f_PR_wet_44_b
          rw [hsl, if_pos (Int32.le_refl _), bot_eq q (by omega) x (by omega), hv1, Option.bind_some]
        · show f_PM_wet_57_b _ _ _ _ _ _ _ _ _ _ _ _ _ = _
          unfold f_PM_wet_57_b
          rw [hsl, if_pos (Int32.le_refl _), pow10' q (by omega), Option.bind_some, hv2, Option.bind_some]
    · rw [if_neg (show ¬ (((0 : Nat) : Int) ≤ j.toInt ∧ j.toInt ≤ ((10 : Nat) : Int)) from hj), if_pos (show (0 : Int32) = 0 from rfl)]
      refine ⟨(-2, shC), _, ?_, rfl, rfl⟩
      by_cases c1 : j < 0
      · rw [if_pos c1]
      · rw [if_neg c1, if_neg]
        rw [i_le (k := 10) (y := 10) (by omega) rfl]; rw [i_lt0] at c1; omega
  · rw [if_neg (show ¬ (((0 : Nat) : Int) ≤ i.toInt ∧ i.toInt ≤ ((5 : Nat) : Int)) from h), if_pos (show (0 : Int32) = 0 from rfl)]
    refine ⟨(-2, shC), _, ?_, rfl, rfl⟩
    by_cases c1 : i < 0
    · rw [if_pos c1]
    · have c2 : (5 : Int32) < i := by
        rw [i_lt0] at c1
        rw [Int32.lt_iff_toInt_lt, show (5 : Int32).toInt = 5 by decide]; omega
      rw [if_neg c1, if_pos c2]
