/-! whom a hand calls: both sides -/
/-- the class's test, over what is shown (-1: not come) -/
def okB (w sh : Int32) : Bool := !(sh == -1) && (w == 3 || w == sh)
def hailsB (kd : Int32) (w sh : Nat → Int32) : Bool :=
  if kd = 1 then okB (w 0) (sh 0) && okB (w 1) (sh 1)
  else okB (w 0) (sh 0) && (okB (w 1) (sh 1) && (okB (w 2) (sh 2) && (okB (w 3) (sh 3) && (!(kd == 2) || (sh 0 == 2 || (sh 1 == 2 || (sh 2 == 2 || sh 3 == 2)))))))
theorem hk_ {c n : Nat} (hc : c < n) (hn : n ≤ 5) (kinds : Nat → Int32) : f_Hall_kind (nI c) (nI n) kinds = some (kinds c) := by
  unfold f_Hall_kind f_Hall_kind_22
  rw [if_neg (nI_pos (by omega)), if_neg (nI_ge hc (by omega)), rd_n (by omega) (by omega)]
  rfl
theorem hp_ {c n : Nat} (hc : c < n) (hn : n ≤ 5) (pats : Nat → Int32) : f_Hall_patience (nI c) (nI n) pats = some (pats c) := by
  unfold f_Hall_patience f_Hall_patience_22
  rw [if_neg (nI_pos (by omega)), if_neg (nI_ge hc (by omega)), rd_n (by omega) (by omega)]
  rfl
theorem hk_out {c n : Nat} (hc : n ≤ c) (hn : c < 2 ^ 31) (kinds : Nat → Int32) : f_Hall_kind (nI c) (nI n) kinds = some 0 := by
  unfold f_Hall_kind f_Hall_kind_21 f_Hall_kind_22
  rw [if_neg (nI_pos (by omega)), if_pos (nI_le hc (by omega))]
theorem hp_out {c n : Nat} (hc : n ≤ c) (hn : c < 2 ^ 31) (pats : Nat → Int32) : f_Hall_patience (nI c) (nI n) pats = some 0 := by
  unfold f_Hall_patience f_Hall_patience_21 f_Hall_patience_22
  rw [if_neg (nI_pos (by omega)), if_pos (nI_le hc (by omega))]
theorem hw_ {c n f : Nat} (hc : c < n) (hn : n ≤ 5) (hf : f < 4) (wanted : Nat → Int32) : f_Hall_wanted (nI c) (nI f) (nI n) wanted = some (wanted (4 * c + f)) := by
  unfold f_Hall_wanted f_Hall_wanted_26 f_Hall_wanted_45
  rw [if_neg (nI_pos (by omega)), if_neg (nI_ge hc (by omega)), if_neg (nI_pos (by omega)), if_neg (show ¬ (4 : Int32) ≤ nI f from nI_ge (b := 4) hf (by omega)), if_neg (by decide)]
  rw [show nI c * 4 + nI f = nI (4 * c + f) by rw [show (4 : Int32) = nI 4 from rfl, pk_mul, nI_add]; congr 1; omega, rd_n (by omega) (by omega)]
  rfl
theorem hails_step {sh kinds wanted : Nat → Int32} {c n k m : Nat} (hc : c < n) (hn : n ≤ 5) {x3 x5 : Int32} {L : Nat} (hL : L ≤ 4) (hk : k < L) :
    f_Hand_hails_24 sh (nI n) kinds wanted (m + 1) (nI c) x3 (nI L) x5 (nI k) = if okB (wanted (4 * c + k)) (sh k) then f_Hand_hails_24 sh (nI n) kinds wanted m (nI c) x3 (nI L) (x5 ||| (if sh k = 2 then 1 else 0)) (nI (k + 1)) else some 0 := by
  show f_Hand_hails_24_b _ _ _ _ _ _ _ _ _ _ = _
  unfold f_Hand_hails_24_b f_Hand_hails_71 f_Hand_hails_89 f_Hand_hails_69
  rw [if_neg (nI_ge hk (by omega)), hw_ hc hn (by omega), rd_n (by omega) (by omega)]
  simp only [Option.bind_some, nI_1, okB, Bool.and_eq_true, Bool.not_eq_true', beq_eq_false_iff_ne, Bool.or_eq_true, beq_iff_eq]
  by_cases h1 : sh k = -1 <;> by_cases h2 : wanted (4 * c + k) = 3 <;> by_cases h3 : wanted (4 * c + k) = sh k <;> by_cases h4 : sh k = 2 <;> simp [h1, h2, h3, h4] <;> simp_all
theorem hails_end {sh kinds wanted : Nat → Int32} {n m : Nat} {x2 x3 x5 x4 : Int32} : f_Hand_hails_24 sh (nI n) kinds wanted (m + 1) x2 x3 x4 x5 x4 = some (if x3 = 2 ∧ x5 = 0 then 0 else 1) := by
  show f_Hand_hails_24_b _ _ _ _ _ _ _ _ _ _ = _
  unfold f_Hand_hails_24_b f_Hand_hails_108 f_Hand_hails_113
  rw [if_pos (Int32.le_refl _)]
  by_cases h1 : x3 = 2 <;> by_cases h2 : x5 = 0 <;> simp [h1, h2]
theorem b_or4 : ∀ a b c d : Bool, (((((0 : Int32) ||| (if a then 1 else 0)) ||| (if b then 1 else 0)) ||| (if c then 1 else 0)) ||| (if d then 1 else 0)) = 0 ↔ (a || (b || (c || d))) = false := by decide
theorem hails_eq {sh kinds wanted : Nat → Int32} {c n : Nat} (hc : c < n) (hn : n ≤ 5) : f_Hand_hails (nI c) sh (nI n) kinds wanted = some (if hailsB (kinds c) (fun f => wanted (4 * c + f)) sh then 1 else 0) := by
  unfold f_Hand_hails f_Hand_hails_16
  rw [hk_ hc hn]
  simp only [Option.bind_some]
  by_cases h1 : kinds c = 1
  · rw [if_pos h1, h1]
    show f_Hand_hails_24 sh (nI n) kinds wanted (299 + 1) (nI c) 1 (nI 2) 0 (nI 0) = _
    rw [hails_step hc hn (by omega) (by omega), show 299 = 298 + 1 from rfl, hails_step hc hn (by omega) (by omega), show 298 = 297 + 1 from rfl, show nI (0 + 1 + 1) = nI 2 from rfl, hails_end]
    simp only [hailsB, h1]
    by_cases h2 : okB (wanted (4 * c + 0)) (sh 0) <;> by_cases h3 : okB (wanted (4 * c + 1)) (sh 1) <;> simp_all
  · rw [if_neg h1]
    show f_Hand_hails_24 sh (nI n) kinds wanted (299 + 1) (nI c) (kinds c) (nI 4) 0 (nI 0) = _
    rw [hails_step hc hn (by omega) (by omega), show 299 = 298 + 1 from rfl, hails_step hc hn (by omega) (by omega), show 298 = 297 + 1 from rfl, hails_step hc hn (by omega) (by omega), show 297 = 296 + 1 from rfl, hails_step hc hn (by omega) (by omega), show 296 = 295 + 1 from rfl, show nI (0 + 1 + 1 + 1 + 1) = nI 4 from rfl, hails_end]
    have hb := b_or4 (sh 0 == 2) (sh (0 + 1) == 2) (sh (0 + 1 + 1) == 2) (sh (0 + 1 + 1 + 1) == 2)
    simp only [beq_iff_eq] at hb
    simp only [hb, hailsB, if_neg h1]
    by_cases h2 : okB (wanted (4 * c + 0)) (sh 0) <;> by_cases h3 : okB (wanted (4 * c + 1)) (sh 1) <;> by_cases h4 : okB (wanted (4 * c + 2)) (sh 2) <;> by_cases h5 : okB (wanted (4 * c + 3)) (sh 3) <;> simp_all
    by_cases h6 : kinds c = 2 <;> simp [h6]
    by_cases h7 : sh 0 = 2 <;> by_cases h8 : sh 1 = 2 <;> by_cases h9 : sh 2 = 2 <;> by_cases h10 : sh 3 = 2 <;> simp [h7, h8, h9, h10]
/-- the class's set of those called -/
theorem hailed_eq {sh kinds wanted : Nat → Int32} {n : Nat} (hn : n ≤ 5) : f_Hand_hailed sh (nI n) kinds wanted = some (nI (maskN (fun c => hailsB (kinds c) (fun f => wanted (4 * c + f)) sh) n)) := by
  refine lpS (fun N k => f_Hand_hailed_4 sh (nI n) kinds wanted N (nI (maskN (fun c => hailsB (kinds c) (fun f => wanted (4 * c + f)) sh) k)) (nI k)) n _ ?_ ?_ 300 0 (by omega) (by omega)
  · intro N k hk
    show f_Hand_hailed_4_b _ _ _ _ _ _ _ = _
    unfold f_Hand_hailed_4_b f_Hand_hailed_27
    rw [if_neg (nI_ge hk (by omega)), hails_eq hk hn]
    simp only [Option.bind_some, nI_1]
    have hm := mask5 (fun c => hailsB (kinds c) (fun f => wanted (4 * c + f)) sh) (n := k) (by omega)
    cases hh : hailsB (kinds k) (fun f => wanted (4 * k + f)) sh
    · simp [maskN, hh]
    · simp only [if_true, sm_or _ hm k (by omega)]
      rw [if_neg (by decide)]
      simp [maskN, hh]
  · intro N
    show f_Hand_hailed_4_b _ _ _ _ _ _ _ = _
    unfold f_Hand_hailed_4_b
    rw [if_pos (Int32.le_refl _)]
/-- the model's test, by fingers that have come (bits) -/
def gB (come k : Nat) (w sh : Int32) : Bool := come.testBit k && (w == 3 || w == sh)
def callsB (kd : Int32) (w sh : Nat → Int32) (come : Nat) : Bool :=
  if kd = 1 then gB come 0 (w 0) (sh 0) && gB come 1 (w 1) (sh 1)
  else gB come 0 (w 0) (sh 0) && (gB come 1 (w 1) (sh 1) && (gB come 2 (w 2) (sh 2) && (gB come 3 (w 3) (sh 3) && (!(kd == 2) || (sh 0 == 2 || (sh 1 == 2 || (sh 2 == 2 || sh 3 == 2)))))))
theorem isC_step {cab sh : Nat → Int32} {c k m come : Nat} (hc : c < 5) (hk : k < 4) (hco : come < 32) {x3 x4 : Int32} :
    f_PM_isCalled_8 cab sh (m + 1) (nI c) (nI come) x3 x4 (nI k) = f_PM_isCalled_8 cab sh m (nI c) (nI come) (x3 ||| (if gB come k (cab (6 * c + 2 + k)) (sh k) then slI 1 (nI k) else 0)) (if x4 = 0 then (if sh k = 2 then 1 else 0) else 1) (nI (k + 1)) := by
  show f_PM_isCalled_8_b _ _ _ _ _ _ _ _ = _
  unfold f_PM_isCalled_8_b f_PM_isCalled_65 f_PM_isCalled_58 f_PM_isCalled_66 f_PM_isCalled_84 f_PM_isCalled_89
  rw [if_neg (show ¬ (4 : Int32) ≤ nI k from nI_ge (b := 4) hk (by omega))]
  rw [show 6 * nI c + 2 + nI k = nI (6 * c + 2 + k) by rw [show (6 : Int32) = nI 6 from rfl, show (2 : Int32) = nI 2 from rfl, pk_mul, nI_add, nI_add]]
  rw [rd_n (by omega) (by omega), has5 come hco k (by omega), rd_n (by omega) (by omega)]
  simp only [Option.bind_some, nI_1, gB, Bool.and_eq_true, Bool.or_eq_true, beq_iff_eq]
  by_cases h1 : come.testBit k = true <;> by_cases h2 : cab (6 * c + 2 + k) = 3 <;> by_cases h3 : cab (6 * c + 2 + k) = sh k <;> by_cases h4 : sh k = 2 <;> by_cases h5 : x4 = 0 <;> simp [h1, h2, h3, h4, h5] <;> simp_all
theorem b_ag4 : ∀ a b c d : Bool, ((((((0 : Int32) ||| (if a then slI 1 (nI 0) else 0)) ||| (if b then slI 1 (nI (0 + 1)) else 0)) ||| (if c then slI 1 (nI (0 + 1 + 1)) else 0)) ||| (if d then slI 1 (nI (0 + 1 + 1 + 1)) else 0)) = 15 ↔ (a && (b && (c && d))) = true) ∧ (((((((0 : Int32) ||| (if a then slI 1 (nI 0) else 0)) ||| (if b then slI 1 (nI (0 + 1)) else 0)) ||| (if c then slI 1 (nI (0 + 1 + 1)) else 0)) ||| (if d then slI 1 (nI (0 + 1 + 1 + 1)) else 0)) &&& 3) = 3 ↔ (a && b) = true) := by decide +kernel
theorem b_pt4 : ∀ a b c d : Bool, (if (if (if (if (0 : Int32) = 0 then (if a then (1 : Int32) else 0) else 1) = 0 then (if b then (1 : Int32) else 0) else 1) = 0 then (if c then (1 : Int32) else 0) else 1) = 0 then (if d then (1 : Int32) else 0) else 1) = 0 ↔ (a || (b || (c || d))) = false := by decide +kernel
theorem isC_end {cab sh : Nat → Int32} {c m : Nat} (hc : c < 5) {x2 x3 x4 : Int32} : f_PM_isCalled_8 cab sh (m + 1) (nI c) x2 x3 x4 (nI 4) = some (if cab (6 * c) = 1 then (if (x3 &&& 3) = 3 then 1 else 0) else (if x3 = 15 ∧ ¬ (cab (6 * c) = 2 ∧ x4 = 0) then 1 else 0)) := by
  show f_PM_isCalled_8_b _ _ _ _ _ _ _ _ = _
  unfold f_PM_isCalled_8_b f_PM_isCalled_122 f_PM_isCalled_147 f_PM_isCalled_151 f_PM_isCalled_152
  rw [if_pos (show (4 : Int32) ≤ nI 4 by decide)]
  rw [show 6 * nI c = nI (6 * c) by rw [show (6 : Int32) = nI 6 from rfl, pk_mul], rd_n (by omega) (by omega)]
  simp only [Option.bind_some]
  by_cases h1 : cab (6 * c) = 1
  · by_cases h2 : (x3 &&& 3) = 3 <;> simp [h1, h2]
  · by_cases h2 : x3 = 15 <;> by_cases h3 : cab (6 * c) = 2 <;> by_cases h4 : x4 = 0 <;> simp [h1, h2, h3, h4]
theorem isC_eq {cab sh : Nat → Int32} {c come : Nat} (hc : c < 5) (hco : come < 32) : f_PM_isCalled (nI c) (nI come) cab sh = some (if callsB (cab (6 * c)) (fun f => cab (6 * c + 2 + f)) sh come then 1 else 0) := by
  unfold f_PM_isCalled
  show f_PM_isCalled_8 cab sh (299 + 1) (nI c) (nI come) 0 0 (nI 0) = _
  rw [isC_step hc (by omega) hco, show 299 = 298 + 1 from rfl, isC_step hc (by omega) hco, show 298 = 297 + 1 from rfl, isC_step hc (by omega) hco, show 297 = 296 + 1 from rfl, isC_step hc (by omega) hco, show 296 = 295 + 1 from rfl, show nI (0 + 1 + 1 + 1 + 1) = nI 4 from rfl, isC_end hc]
  have ha := b_ag4 (gB come 0 (cab (6 * c + 2 + 0)) (sh 0)) (gB come (0 + 1) (cab (6 * c + 2 + (0 + 1))) (sh (0 + 1))) (gB come (0 + 1 + 1) (cab (6 * c + 2 + (0 + 1 + 1))) (sh (0 + 1 + 1))) (gB come (0 + 1 + 1 + 1) (cab (6 * c + 2 + (0 + 1 + 1 + 1))) (sh (0 + 1 + 1 + 1)))
  have hb := b_pt4 (sh 0 == 2) (sh (0 + 1) == 2) (sh (0 + 1 + 1) == 2) (sh (0 + 1 + 1 + 1) == 2)
  simp only [beq_iff_eq] at hb
  simp only [ha.1, ha.2, hb]
  simp only [callsB]
  by_cases h1 : cab (6 * c) = 1
  · simp [h1]
  · rw [if_neg h1, if_neg h1]
    congr 1
    by_cases h2 : cab (6 * c) = 2
    · simp only [h2, true_and, beq_self_eq_true, Bool.not_true, Bool.false_or, Bool.and_eq_true]
      simp only [Bool.not_eq_false, and_assoc, Nat.zero_add, Nat.reduceAdd]
    · simp only [h2, false_and, not_false_eq_true, and_true, beq_eq_false_iff_ne.mpr h2, Bool.not_false, Bool.true_or, Bool.and_true, Nat.zero_add, Nat.reduceAdd]
theorem calledOf_eq {cab sh : Nat → Int32} {n come : Nat} (hn : n ≤ 5) (hco : come < 32) : f_PM_calledOf (nI come) (nI n) cab sh = some (nI (maskN (fun c => callsB (cab (6 * c)) (fun f => cab (6 * c + 2 + f)) sh come) n)) := by
  refine lpS (fun N k => f_PM_calledOf_4 (nI n) cab sh N (nI come) (nI (maskN (fun c => callsB (cab (6 * c)) (fun f => cab (6 * c + 2 + f)) sh come) k)) (nI k)) n _ ?_ ?_ 300 0 (by omega) (by omega)
  · intro N k hk
    show f_PM_calledOf_4_b _ _ _ _ _ _ _ = _
    unfold f_PM_calledOf_4_b f_PM_calledOf_29
    rw [if_neg (nI_ge hk (by omega)), isC_eq (by omega) hco]
    simp only [Option.bind_some, nI_1]
    have hm := mask5 (fun c => callsB (cab (6 * c)) (fun f => cab (6 * c + 2 + f)) sh come) (n := k) (by omega)
    cases hh : callsB (cab (6 * k)) (fun f => cab (6 * k + 2 + f)) sh come
    · simp [maskN, hh, sm_or0 _ hm]
    · simp only [if_true, sm_or _ hm k (by omega)]
      rw [if_neg (by decide)]
      simp [maskN, hh]
  · intro N
    show f_PM_calledOf_4_b _ _ _ _ _ _ _ = _
    unfold f_PM_calledOf_4_b
    rw [if_pos (Int32.le_refl _)]
