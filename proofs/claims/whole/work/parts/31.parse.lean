/-! the text: its fault, both ways of reading -/
def fitN (j x : Nat) : Bool :=
  if j = 0 then decide (x = 80) else if j < 13 then decide (48 ≤ x ∧ x ≤ 50) else if (j - 13) % 7 = 0 then decide (x = 67) else if (j - 13) % 7 = 2 then decide (49 ≤ x ∧ x ≤ 57) else decide (48 ≤ x ∧ x ≤ 51)
theorem fits_eq {j x : Nat} (hj : j < 48) (hx : x < 256) : f_Text_fits (nI j) (nI x) = some (if fitN j x = true then 1 else 0) := by
  unfold f_Text_fits f_Text_fits_15 f_Text_fits_38 f_Text_fits_39 f_Text_fits_83 f_Text_fits_100 f_Text_fits_101 f_Text_fits_118 f_Text_fits_119 fitN
  have eq : ∀ (y : Nat) (z : Int32), z = nI y → y < 256 → (nI x = z ↔ x = y) := fun y z hz hy => by rw [hz]; exact nI_eq (by omega) (by omega)
  have lt : ∀ (y : Nat) (z : Int32), z = nI y → y < 256 → (nI x < z ↔ x < y) := fun y z hz hy => by rw [hz]; exact nI_ltI (by omega) (by omega)
  have gt : ∀ (y : Nat) (z : Int32), z = nI y → y < 256 → (z < nI x ↔ y < x) := fun y z hz hy => by rw [hz]; exact nI_ltI (by omega) (by omega)
  by_cases h0 : j = 0
  · subst h0
    rw [if_pos (show nI 0 = 0 from rfl), if_pos rfl]
    by_cases h : x = 80
    · rw [if_pos ((eq 80 80 rfl (by omega)).mpr h)]; simp [h]
    · rw [if_neg (fun e => h ((eq 80 80 rfl (by omega)).mp e))]; simp [h]
  · rw [if_neg (show ¬ nI j = 0 from nI_ne0 (by omega) (by omega)), if_neg h0]
    by_cases h13 : j < 13
    · rw [if_neg (show ¬ (13 : Int32) ≤ nI j from nI_ge (b := 13) h13 (by omega)), if_pos h13]
      by_cases a : x < 48
      · rw [if_pos ((lt 48 48 rfl (by omega)).mpr a)]
        have : ¬ (48 ≤ x ∧ x ≤ 50) := by omega
        simp [this]
      · rw [if_neg (fun e => a ((lt 48 48 rfl (by omega)).mp e))]
        by_cases b : 50 < x
        · rw [if_pos ((gt 50 50 rfl (by omega)).mpr b)]
          have : ¬ (48 ≤ x ∧ x ≤ 50) := by omega
          simp [this]
        · rw [if_neg (fun e => b ((gt 50 50 rfl (by omega)).mp e))]
          have : 48 ≤ x ∧ x ≤ 50 := by omega
          simp [this]
    · rw [if_pos (show (13 : Int32) ≤ nI j from nI_le (a := 13) (by omega) (by omega)), if_neg h13, show nI j - 13 = nI (j - 13) from pk_sub (b := 13) (by omega), show rmI (nI (j - 13)) 7 = nI ((j - 13) % 7) from pk_rem (d := 7) (by omega) (by omega) (by omega)]
      have hr : (j - 13) % 7 < 7 := Nat.mod_lt _ (by omega)
      generalize (j - 13) % 7 = r at hr ⊢
      by_cases r0 : r = 0
      · rw [if_pos (show nI r = 0 by rw [r0]; rfl), if_pos r0]
        by_cases h : x = 67
        · rw [if_pos ((eq 67 67 rfl (by omega)).mpr h)]; simp [h]
        · rw [if_neg (fun e => h ((eq 67 67 rfl (by omega)).mp e))]; simp [h]
      · rw [if_neg (show ¬ nI r = 0 from nI_ne0 (by omega) (by omega)), if_neg r0]
        by_cases r2 : r = 2
        · rw [if_pos (show nI r = 2 by rw [r2]; rfl), if_pos r2]
          by_cases a : x < 49
          · rw [if_pos ((lt 49 49 rfl (by omega)).mpr a)]
            have : ¬ (49 ≤ x ∧ x ≤ 57) := by omega
            simp [this]
          · rw [if_neg (fun e => a ((lt 49 49 rfl (by omega)).mp e))]
            by_cases b : 57 < x
            · rw [if_pos ((gt 57 57 rfl (by omega)).mpr b)]
              have : ¬ (49 ≤ x ∧ x ≤ 57) := by omega
              simp [this]
            · rw [if_neg (fun e => b ((gt 57 57 rfl (by omega)).mp e))]
              have : 49 ≤ x ∧ x ≤ 57 := by omega
              simp [this]
        · rw [if_neg (show ¬ nI r = 2 from fun e => r2 (nI_inj (b := 2) (by omega) (by omega) e)), if_neg r2]
          by_cases a : x < 48
          · rw [if_pos ((lt 48 48 rfl (by omega)).mpr a)]
            have : ¬ (48 ≤ x ∧ x ≤ 51) := by omega
            simp [this]
          · rw [if_neg (fun e => a ((lt 48 48 rfl (by omega)).mp e))]
            by_cases b : 51 < x
            · rw [if_pos ((gt 51 51 rfl (by omega)).mpr b)]
              have : ¬ (48 ≤ x ∧ x ≤ 51) := by omega
              simp [this]
            · rw [if_neg (fun e => b ((gt 51 51 rfl (by omega)).mp e))]
              have : 48 ≤ x ∧ x ≤ 51 := by omega
              simp [this]
def whlB (n : Nat) : Bool := decide (13 ≤ n) && decide ((n - 13) % 7 = 0)
/-- the fault, looked for from k on, d bytes left -/
def scan (n : Nat) (x : Nat → Nat) : Nat → Nat → Int32
  | _, 0 => if whlB n = true then -9 else nI n
  | k, d + 1 => if fitN k (x k) = true then scan n x (k + 1) d else nI k
theorem fault_eq {n : Nat} (hn : n ≤ 48) {t : Nat → Int32} {x : Nat → Nat} (hx : ∀ j, j < n → x j < 256 ∧ t j = nI (x j)) : ∀ (d k N : Nat), k + d = n → d < N → f_Text_firstFault_2 (nI n) t N (nI k) = some (scan n x k d) := by
  intro d
  induction d with
  | zero =>
    intro k N h1 h2
    obtain ⟨N', rfl⟩ : ∃ N', N = N' + 1 := ⟨N - 1, by omega⟩
    show f_Text_firstFault_2_b _ _ _ _ = _
    unfold f_Text_firstFault_2_b f_Text_firstFault_57 f_Text_firstFault_58 f_Text_firstFault_72 scan whlB
    rw [if_pos (nI_le (by omega) (by omega))]
    by_cases h13 : n < 13
    · rw [if_pos (show nI n < 13 from nI_lt (b := 13) h13 (by omega))]
      simp [show ¬ 13 ≤ n by omega]
    · rw [if_neg (show ¬ nI n < 13 from nI_nlt (b := 13) (by omega) (by omega)), show nI n - 13 = nI (n - 13) from pk_sub (b := 13) (by omega), show rmI (nI (n - 13)) 7 = nI ((n - 13) % 7) from pk_rem (d := 7) (by omega) (by omega) (by omega)]
      by_cases hr : (n - 13) % 7 = 0
      · rw [if_pos (show nI ((n - 13) % 7) = 0 by rw [hr]; rfl)]
        simp [show 13 ≤ n by omega, hr]
      · rw [if_neg (show ¬ nI ((n - 13) % 7) = 0 from nI_ne0 (by omega) (by omega))]
        simp [hr]
  | succ d ih =>
    intro k N h1 h2
    obtain ⟨N', rfl⟩ : ∃ N', N = N' + 1 := ⟨N - 1, by omega⟩
    obtain ⟨hx1, hx2⟩ := hx k (by omega)
    show f_Text_firstFault_2_b _ _ _ _ = _
    unfold f_Text_firstFault_2_b scan
    rw [if_neg (nI_ge (show k < n by omega) (by omega)), rd_n (by omega) (by omega), Option.bind_some, hx2, fits_eq (by omega) hx1, Option.bind_some, nI_1]
    cases fitN k (x k)
    · rw [if_neg (show ¬ (false = true) by decide), if_pos (show (0 : Int32) = 0 from rfl), if_neg (show ¬ (false = true) by decide)]
    · rw [if_pos (show true = true from rfl), if_neg (show ¬ ((1 : Int32) = 0) by decide), if_pos (show true = true from rfl)]
      exact ih (k + 1) N' (by omega) (by omega)
/-! the model's way -/
section MODEL
variable {n : Nat} {t tx : Nat → Int32} {x : Nat → Nat}
theorem fig_in {p lo hi : Nat} (hn : n ≤ 48) (htx : ∀ j, j < 48 → tx j = t j) (hx : ∀ j, j < n → x j < 256 ∧ t j = nI (x j)) (hp : p < n) (hhi : hi < 100) (hlo : lo < 100) : f_PM_figure (nI lo) (nI hi) (nI n) tx (nI p) = some (if lo + 48 ≤ x p ∧ x p ≤ hi + 48 then (nI (x p - 48), nI (p + 1)) else (-9, nI p)) := by
  obtain ⟨hx1, hx2⟩ := hx p hp
  unfold f_PM_figure f_PM_figure_34
  have hti : (nI (x p) - 48).toInt = (x p : Int) - 48 := by
    exact pk_sub_toInt (a := x p) (b := 48) (by omega) (by omega)
  rw [if_neg (fun e => by have := nI_inj (by omega) (by omega) e; omega), rd_n (by omega) (by omega), htx p (by omega), hx2, Option.bind_some, pm_in, Option.bind_some]
  simp only [i64_le, hti, nI_toInt (show lo < 2 ^ 31 by omega), nI_toInt (show hi < 2 ^ 31 by omega)]
  by_cases h : lo + 48 ≤ x p ∧ x p ≤ hi + 48
  · rw [if_pos (show (lo : Int) ≤ (x p : Int) - 48 ∧ (x p : Int) - 48 ≤ (hi : Int) by omega), if_neg (show ¬ ((1 : Int32) = 0) by decide), if_pos h, show nI p + 1 - 1 = nI p by rw [nI_1]; exact nI_pred p, rd_n (by omega) (by omega), htx p (by omega), hx2, Option.bind_some, show nI (x p) - 48 = nI (x p - 48) from pk_sub (b := 48) (by omega), nI_1]
  · rw [if_neg (show ¬ ((lo : Int) ≤ (x p : Int) - 48 ∧ (x p : Int) - 48 ≤ (hi : Int)) by omega), if_pos (show (0 : Int32) = 0 from rfl), if_neg h]
theorem fig_end {lo hi : Int32} : f_PM_figure lo hi (nI n) tx (nI n) = some (-9, nI n) := by
  unfold f_PM_figure f_PM_figure_34
  rw [if_pos rfl]
theorem scan_go {k d : Nat} (h : fitN k (x k) = true) : scan n x k (d + 1) = scan n x (k + 1) d := by
  show (if fitN k (x k) = true then _ else _) = _
  rw [if_pos h]
theorem scan_no {k d : Nat} (h : ¬ fitN k (x k) = true) : scan n x k (d + 1) = nI k := by
  show (if fitN k (x k) = true then _ else _) = _
  rw [if_neg h]
theorem scan_end {k : Nat} (h : whlB n = false) : scan n x k 0 = nI n := by
  show (if whlB n = true then _ else _) = _
  rw [h]; rfl
/-- the twelve layers -/
theorem lay12 (hn : n ≤ 48) (htx : ∀ j, j < 48 → tx j = t j) (hx : ∀ j, j < n → x j < 256 ∧ t j = nI (x j)) : ∀ (e k N : Nat) (rl : Nat → Int32), k + e = 12 → 1 + k ≤ n → e < N → (∀ j, j < k → rl j = nI (x (1 + j) - 48) ∧ fitN (1 + j) (x (1 + j)) = true) →
    ∃ r, f_PM_readLayers_2 (nI n) tx N (nI k) (nI (1 + k)) rl = some r ∧ ((r.1 = 0 ∧ r.2.1 = scan n x (1 + k) (n - (1 + k)) ∧ ∃ p, p ≤ 48 ∧ r.2.1 = nI p) ∨ (r.1 = 1 ∧ r.2.1 = nI 13 ∧ 13 ≤ n ∧ scan n x (1 + k) (n - (1 + k)) = scan n x 13 (n - 13) ∧ ∀ j, j < 12 → r.2.2 j = nI (x (1 + j) - 48) ∧ fitN (1 + j) (x (1 + j)) = true)) := by
  intro e
  induction e with
  | zero =>
    intro k N rl h1 h2 h3 hI
    obtain ⟨N', rfl⟩ : ∃ N', N = N' + 1 := ⟨N - 1, by omega⟩
    have hk : k = 12 := by omega
    subst hk
    refine ⟨(1, nI 13, rl), ?_, Or.inr ⟨rfl, rfl, by omega, rfl, hI⟩⟩
    show f_PM_readLayers_2_b _ _ _ _ _ _ = _
    unfold f_PM_readLayers_2_b
    rw [if_pos (show (12 : Int32) ≤ nI 12 by decide)]
  | succ e ih =>
    intro k N rl h1 h2 h3 hI
    obtain ⟨N', rfl⟩ : ∃ N', N = N' + 1 := ⟨N - 1, by omega⟩
    show ∃ r, f_PM_readLayers_2_b _ _ _ _ _ _ = _ ∧ _
    unfold f_PM_readLayers_2_b
    rw [if_neg (show ¬ (12 : Int32) ≤ nI k from nI_ge (b := 12) (by omega) (by omega))]
    by_cases hp : 1 + k = n
    · rw [hp, fig_end, Option.bind_some, if_pos rfl]
      refine ⟨_, rfl, Or.inl ⟨rfl, ?_, n, hn, rfl⟩⟩
      rw [Nat.sub_self, scan_end (by unfold whlB; simp [show ¬ 13 ≤ n by omega])]
    · have hf := fig_in (p := 1 + k) (lo := 0) (hi := 2) hn htx hx (by omega) (by omega) (by omega)
      obtain ⟨d, hd⟩ : ∃ d, n - (1 + k) = d + 1 := ⟨n - (1 + k) - 1, by omega⟩
      have hd2 : n - (1 + k + 1) = d := by clear hf ih; omega
      have hfit : fitN (1 + k) (x (1 + k)) = decide (48 ≤ x (1 + k) ∧ x (1 + k) ≤ 50) := by
        unfold fitN; rw [if_neg (by omega), if_pos (by omega)]
      rw [show f_PM_figure 0 2 (nI n) tx (nI (1 + k)) = _ from hf, Option.bind_some, hd]
      by_cases hc : 0 + 48 ≤ x (1 + k) ∧ x (1 + k) ≤ 2 + 48
      · have hft : fitN (1 + k) (x (1 + k)) = true := by rw [hfit]; simp; omega
        have hx1 := (hx (1 + k) (by omega)).1
        rw [if_pos hc, if_neg (ne9 (by omega)), wr_n (by omega) (by omega), Option.bind_some, nI_1, scan_go hft]
        obtain ⟨r, e1, e2⟩ := ih (k + 1) N' (upd rl k (nI (x (1 + k) - 48))) (by omega) (by omega) (by omega) (fun j hj => by
          by_cases hjk : j = k
          · subst hjk; rw [up_s]; exact ⟨rfl, hft⟩
          · rw [up_n hjk]; exact hI j (by omega))
        rw [show 1 + (k + 1) = 1 + k + 1 from rfl] at e1 e2
        rw [hd2] at e2
        exact ⟨r, e1, e2⟩
      · have hft : ¬ fitN (1 + k) (x (1 + k)) = true := by rw [hfit]; simp; omega
        rw [if_neg hc, if_pos rfl, scan_no hft]
        exact ⟨_, rfl, Or.inl ⟨rfl, rfl, 1 + k, by omega, rfl⟩⟩
/-- one cabman's six figures -/
theorem one6 (hn : n ≤ 48) (htx : ∀ j, j < 48 → tx j = t j) (hx : ∀ j, j < n → x j < 256 ∧ t j = nI (x j)) {c : Nat} (hc : c < 5) : ∀ (e k N : Nat) (rc : Nat → Int32), k + e = 6 → 14 + 7 * c + k ≤ n → e < N → (∀ j, j < 6 * c + k → rc j = nI (x (14 + 7 * (j / 6) + j % 6) - 48) ∧ fitN (14 + 7 * (j / 6) + j % 6) (x (14 + 7 * (j / 6) + j % 6)) = true) →
    ∃ r, f_PM_readOne_2 (nI n) tx N (nI k) (nI (14 + 7 * c + k)) (nI c) rc = some r ∧ ((r.1 = 0 ∧ r.2.1 = scan n x (14 + 7 * c + k) (n - (14 + 7 * c + k)) ∧ ∃ p, p ≤ 48 ∧ r.2.1 = nI p) ∨ (r.1 = 1 ∧ r.2.1 = nI (20 + 7 * c) ∧ 20 + 7 * c ≤ n ∧ r.2.2.1 = nI (c + 1) ∧ scan n x (14 + 7 * c + k) (n - (14 + 7 * c + k)) = scan n x (20 + 7 * c) (n - (20 + 7 * c)) ∧ ∀ j, j < 6 * (c + 1) → r.2.2.2 j = nI (x (14 + 7 * (j / 6) + j % 6) - 48) ∧ fitN (14 + 7 * (j / 6) + j % 6) (x (14 + 7 * (j / 6) + j % 6)) = true)) := by
  intro e
  induction e with
  | zero =>
    intro k N rc h1 h2 h3 hI
    obtain ⟨N', rfl⟩ : ∃ N', N = N' + 1 := ⟨N - 1, by omega⟩
    have hk : k = 6 := by omega
    subst hk
    refine ⟨(1, nI (14 + 7 * c + 6), nI (c + 1), rc), ?_, Or.inr ⟨rfl, by dsimp only; congr 1; omega, by omega, rfl, by rw [show 14 + 7 * c + 6 = 20 + 7 * c by omega], fun j hj => hI j (by omega)⟩⟩
    show f_PM_readOne_2_b _ _ _ _ _ _ _ = _
    unfold f_PM_readOne_2_b
    rw [if_pos (show (6 : Int32) ≤ nI 6 by decide), nI_1]
  | succ e ih =>
    intro k N rc h1 h2 h3 hI
    obtain ⟨N', rfl⟩ : ∃ N', N = N' + 1 := ⟨N - 1, by omega⟩
    have hmod : (14 + 7 * c + k - 13) % 7 = (1 + k) % 7 := by omega
    have hstep : f_PM_readOne_2 (nI n) tx (N' + 1) (nI k) (nI (14 + 7 * c + k)) (nI c) rc = f_PM_readOne_30 (f_PM_readOne_2 (nI n) tx N') (nI n) tx (nI k) (nI (if k = 1 then 1 else 0)) (nI (if k = 1 then 9 else 3)) (nI (14 + 7 * c + k)) (nI c) rc := by
      show f_PM_readOne_2_b _ _ _ _ _ _ _ = _
      unfold f_PM_readOne_2_b f_PM_readOne_19
      rw [if_neg (show ¬ (6 : Int32) ≤ nI k from nI_ge (b := 6) (by omega) (by omega))]
      by_cases hk1 : k = 1
      · subst hk1; rfl
      · have : ¬ nI k = 1 := fun e => hk1 (nI_inj (b := 1) (by omega) (by omega) e)
        rw [if_neg this, if_neg this, if_neg hk1, if_neg hk1]; rfl
    rw [hstep]
    unfold f_PM_readOne_30
    by_cases hp : 14 + 7 * c + k = n
    · rw [hp, fig_end, Option.bind_some, if_pos rfl]
      refine ⟨_, rfl, Or.inl ⟨rfl, ?_, n, hn, rfl⟩⟩
      rw [Nat.sub_self, scan_end (by unfold whlB; rw [← hp]; simp; omega)]
    · have hf := fig_in (p := 14 + 7 * c + k) (lo := if k = 1 then 1 else 0) (hi := if k = 1 then 9 else 3) hn htx hx (by omega) (by split <;> omega) (by split <;> omega)
      obtain ⟨d, hd⟩ : ∃ d, n - (14 + 7 * c + k) = d + 1 := ⟨n - (14 + 7 * c + k) - 1, by omega⟩
      have hd2 : n - (14 + 7 * c + k + 1) = d := by clear hf ih; omega
      have hfit : fitN (14 + 7 * c + k) (x (14 + 7 * c + k)) = decide ((if k = 1 then 1 else 0) + 48 ≤ x (14 + 7 * c + k) ∧ x (14 + 7 * c + k) ≤ (if k = 1 then 9 else 3) + 48) := by
        unfold fitN
        rw [if_neg (by omega), if_neg (by omega), hmod]
        by_cases hk1 : k = 1
        · subst hk1; simp
        · rw [if_neg (by omega), if_neg (by omega), if_neg hk1, if_neg hk1]
      rw [hf, Option.bind_some, hd]
      have hx1 := (hx (14 + 7 * c + k) (by omega)).1
      by_cases hcc : (if k = 1 then 1 else 0) + 48 ≤ x (14 + 7 * c + k) ∧ x (14 + 7 * c + k) ≤ (if k = 1 then 9 else 3) + 48
      · have hft : fitN (14 + 7 * c + k) (x (14 + 7 * c + k)) = true := by rw [hfit]; simpa using hcc
        rw [if_pos hcc, if_neg (ne9 (by omega)), show 6 * nI c + nI k = nI (6 * c + k) by rw [show (6 : Int32) = nI 6 from rfl, pk_mul, nI_add], wr_n (by omega) (by omega), Option.bind_some, nI_1, scan_go hft]
        obtain ⟨r, e1, e2⟩ := ih (k + 1) N' (upd rc (6 * c + k) (nI (x (14 + 7 * c + k) - 48))) (by omega) (by omega) (by omega) (fun j hj => by
          by_cases hjk : j = 6 * c + k
          · subst hjk
            rw [up_s, show (6 * c + k) / 6 = c by omega, show (6 * c + k) % 6 = k by omega]; exact ⟨rfl, hft⟩
          · rw [up_n hjk]; exact hI j (by omega))
        rw [show 14 + 7 * c + (k + 1) = 14 + 7 * c + k + 1 from rfl] at e1 e2
        rw [hd2] at e2
        exact ⟨r, e1, e2⟩
      · have hft : ¬ fitN (14 + 7 * c + k) (x (14 + 7 * c + k)) = true := by rw [hfit]; simpa using hcc
        rw [if_neg hcc, if_pos rfl, scan_no hft]
        exact ⟨_, rfl, Or.inl ⟨rfl, rfl, 14 + 7 * c + k, by omega, rfl⟩⟩
/-- what is read, when there is no fault -/
def ReadOK (n : Nat) (x : Nat → Nat) (rcn : Int32) (rl rc : Nat → Int32) : Prop :=
  13 ≤ n ∧ (n - 13) % 7 = 0 ∧ rcn = nI ((n - 13) / 7) ∧ (∀ j, j < 12 → rl j = nI (x (1 + j) - 48) ∧ fitN (1 + j) (x (1 + j)) = true) ∧ ∀ j, j < 6 * ((n - 13) / 7) → rc j = nI (x (14 + 7 * (j / 6) + j % 6) - 48) ∧ fitN (14 + 7 * (j / 6) + j % 6) (x (14 + 7 * (j / 6) + j % 6)) = true
theorem rest47 (hn : n ≤ 48) (htx : ∀ j, j < 48 → tx j = t j) (hx : ∀ j, j < n → x j < 256 ∧ t j = nI (x j)) {rl : Nat → Int32} (hrl : ∀ j, j < 12 → rl j = nI (x (1 + j) - 48) ∧ fitN (1 + j) (x (1 + j)) = true) : ∀ (e c N : Nat) (rc : Nat → Int32), c + e = 6 → 13 + 7 * c ≤ n → e < N → (∀ j, j < 6 * c → rc j = nI (x (14 + 7 * (j / 6) + j % 6) - 48) ∧ fitN (14 + 7 * (j / 6) + j % 6) (x (14 + 7 * (j / 6) + j % 6)) = true) →
    ∃ r, f_PM_readHall_47 (nI n) tx N (nI (13 + 7 * c)) (nI c) rl rc = some r ∧ r.1 = scan n x (13 + 7 * c) (n - (13 + 7 * c)) ∧ (r.1 = -9 → ReadOK n x r.2.2.1 r.2.2.2.1 r.2.2.2.2) := by
  intro e
  induction e with
  | zero => intro c N rc h1 h2; omega
  | succ e ih =>
    intro c N rc h1 h2 h3 hI
    obtain ⟨N', rfl⟩ : ∃ N', N = N' + 1 := ⟨N - 1, by omega⟩
    show ∃ r, f_PM_readHall_47_b _ _ _ _ _ _ _ = _ ∧ _
    unfold f_PM_readHall_47_b f_PM_readHall_80
    by_cases hp : 13 + 7 * c = n
    · rw [if_pos (nI_le (by omega) (by omega))]
      have hw : whlB n = true := by unfold whlB; rw [← hp]; simp
      refine ⟨_, rfl, ?_, fun _ => ⟨by omega, by omega, ?_, hrl, fun j hj => hI j (by omega)⟩⟩
      · rw [hp, Nat.sub_self]
        show _ = (if whlB n = true then _ else _)
        rw [if_pos hw]
      · dsimp only; congr 1; omega
    · rw [if_neg (nI_ge (show 13 + 7 * c < n by omega) (by omega)), rd_n (by omega) (by omega), Option.bind_some, htx _ (by omega), (hx _ (show 13 + 7 * c < n by omega)).2]
      obtain ⟨d, hd⟩ : ∃ d, n - (13 + 7 * c) = d + 1 := ⟨n - (13 + 7 * c) - 1, by omega⟩
      have hd2 : n - (13 + 7 * c + 1) = d := by clear ih; omega
      have hx1 := (hx (13 + 7 * c) (by omega)).1
      have hfit : fitN (13 + 7 * c) (x (13 + 7 * c)) = decide (x (13 + 7 * c) = 67) := by
        unfold fitN; rw [if_neg (by omega), if_neg (by omega), if_pos (by omega)]
      rw [hd]
      by_cases h67 : x (13 + 7 * c) = 67
      · have hft : fitN (13 + 7 * c) (x (13 + 7 * c)) = true := by rw [hfit]; simpa using h67
        rw [if_pos (show nI (x (13 + 7 * c)) = 67 by rw [h67]; rfl), if_neg (show ¬ nI c = 5 from fun e => by have := nI_inj (b := 5) (by omega) (by omega) e; omega), nI_1, scan_go hft]
        obtain ⟨r, e1, e2⟩ := one6 hn htx hx (c := c) (by omega) 6 0 300 rc (by omega) (by omega) (by omega) (fun j hj => hI j (by omega))
        rw [show 14 + 7 * c + 0 = 13 + 7 * c + 1 by omega] at e1 e2
        unfold f_PM_readOne
        rw [show f_PM_readOne_2 (nI n) tx 300 0 (nI (13 + 7 * c + 1)) (nI c) rc = some r from e1, Option.bind_some]
        rw [hd2] at e2
        rcases e2 with ⟨g1, g2, p, hp2, g3⟩ | ⟨g1, g2, g3, g4, g5, g6⟩
        · rw [if_pos g1]
          refine ⟨_, rfl, g2, fun h => ?_⟩
          exact absurd (show nI p = -9 by rw [← g3]; exact h) (ne9 (by omega))
        · rw [g1, if_neg (show ¬ ((1 : Int32) = 0) by decide), g2, g4]
          obtain ⟨r2, k1, k2, k3⟩ := ih (c + 1) N' r.2.2.2 (by omega) (by omega) (by omega) g6
          rw [show 13 + 7 * (c + 1) = 20 + 7 * c by omega] at k1 k2
          exact ⟨r2, k1, by rw [k2, g5], k3⟩
      · have hft : ¬ fitN (13 + 7 * c) (x (13 + 7 * c)) = true := by rw [hfit]; simpa using h67
        rw [if_neg (show ¬ nI (x (13 + 7 * c)) = 67 from fun e => h67 (nI_inj (b := 67) (by omega) (by omega) e)), scan_no hft]
        refine ⟨_, rfl, rfl, fun h => ?_⟩
        exact absurd h (ne9 (by omega))
theorem readHall_eq (hn : n ≤ 48) (htx : ∀ j, j < 48 → tx j = t j) (hx : ∀ j, j < n → x j < 256 ∧ t j = nI (x j)) (pl rn : Int32) (rl rc : Nat → Int32) : ∃ r, f_PM_readHall (nI n) tx pl rn rl rc = some r ∧ r.1 = scan n x 0 n ∧ (r.1 = -9 → ReadOK n x r.2.2.1 r.2.2.2.1 r.2.2.2.2) := by
  unfold f_PM_readHall f_PM_readHall_28
  by_cases h0 : n = 0
  · subst h0
    rw [if_pos (show nI 0 = 0 from rfl)]
    exact ⟨_, rfl, rfl, fun h => absurd h (show ¬ (0 : Int32) = -9 by decide)⟩
  · have hx0 := hx 0 (by omega)
    rw [if_neg (show ¬ nI n = 0 from nI_ne0 (by omega) (by omega)), show rd tx 48 0 = some (tx 0) from rd_n (k := 0) (by omega) (by omega), Option.bind_some, htx 0 (by omega), hx0.2]
    obtain ⟨d, hd⟩ : ∃ d, n = d + 1 := ⟨n - 1, by omega⟩
    have hfit : fitN 0 (x 0) = decide (x 0 = 80) := by unfold fitN; rw [if_pos rfl]
    have hsc : scan n x 0 n = scan n x 0 (d + 1) := by rw [← hd]
    rw [hsc]
    by_cases h80 : x 0 = 80
    · rw [if_pos (show nI (x 0) = 80 by rw [h80]; rfl), scan_go (by rw [hfit]; simpa using h80)]
      obtain ⟨r, e1, e2⟩ := lay12 hn htx hx 12 0 300 rl (by omega) (by omega) (by omega) (fun j hj => by omega)
      unfold f_PM_readLayers
      rw [show f_PM_readLayers_2 (nI n) tx 300 0 1 rl = some r from e1, Option.bind_some]
      rw [show n - (1 + 0) = d by omega] at e2
      rcases e2 with ⟨g1, g2, p, hp2, g3⟩ | ⟨g1, g2, g3, g4, g5⟩
      · rw [if_pos g1]
        refine ⟨_, rfl, g2, fun h => ?_⟩
        exact absurd (show nI p = -9 by rw [← g3]; exact h) (ne9 (by omega))
      · rw [g1, if_neg (show ¬ ((1 : Int32) = 0) by decide), g2]
        obtain ⟨r2, k1, k2, k3⟩ := rest47 hn htx hx g5 6 0 300 rc (by omega) (by omega) (by omega) (fun j hj => by omega)
        exact ⟨r2, k1, by rw [k2]; exact g4.symm, k3⟩
    · rw [if_neg (show ¬ nI (x 0) = 80 from fun e => h80 (nI_inj (b := 80) (by omega) (by omega) e)), scan_no (by rw [hfit]; simpa using h80)]
      exact ⟨_, rfl, rfl, fun h => absurd h (show ¬ (0 : Int32) = -9 by decide)⟩
end MODEL
theorem TextR_x {tl ts : Int32} {tt tx : Nat → Int32} (h : TextR tl tt ts tx) : ∃ n, ∃ x : Nat → Nat, n ≤ 48 ∧ tl = nI n ∧ ts = nI n ∧ (∀ j, j < 48 → tx j = tt j) ∧ ∀ j, j < n → x j < 256 ∧ tt j = nI (x j) := by
  obtain ⟨n, h1, h2, h3, h4, h5⟩ := h
  refine ⟨n, fun j => (tt j).toNatClampNeg, h1, h2, h3, h4, fun j hj => ?_⟩
  obtain ⟨y, hy, e⟩ := h5 j hj
  dsimp only
  rw [e, nI_clamp (by omega)]
  exact ⟨hy, rfl⟩
theorem op_fault {tl ts th pl rn : Int32} {tt tx rl rc : Nat → Int32} (h : TextR tl tt ts tx) : ∃ r r', f_PR_fault tl tt = some r ∧ f_PM_fault ts tx th pl rn rl rc = some r' ∧ r = r'.1 := by
  obtain ⟨n, x, hn, rfl, rfl, htx, hx⟩ := TextR_x h
  unfold f_PR_fault f_PM_fault f_Text_firstFault
  obtain ⟨r, e1, e2, -⟩ := readHall_eq hn htx hx pl rn rl rc
  rw [show f_Text_firstFault_2 (nI n) tt 300 0 = _ from fault_eq hn hx n 0 300 (by omega) (by omega), e1]
  exact ⟨_, _, rfl, rfl, e2.symm⟩
