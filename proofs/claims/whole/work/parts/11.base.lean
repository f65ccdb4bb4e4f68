/-! plain facts on small numbers, rows, loops -/
theorem inb_n {n k : Nat} (h : k < n) (hn : n < 2 ^ 31) : inb (nI k) n = true := by
  have hk : k < 2 ^ 31 := by omega
  simp only [inb, Bool.not_eq_true', Bool.or_eq_false_iff, decide_eq_false_iff_not]
  exact ⟨nI_pos hk, by rw [nI_clamp hk]; omega⟩
theorem rd_n {f : Nat → Int32} {n k : Nat} (h : k < n) (hn : n < 2 ^ 31) : rd f n (nI k) = some (f k) := by
  unfold rd
  rw [if_pos (inb_n h hn), nI_clamp (by omega)]
theorem wr_n {f : Nat → Int32} {n k : Nat} {x : Int32} (h : k < n) (hn : n < 2 ^ 31) : wr f n (nI k) x = some (upd f k x) := by
  unfold wr
  rw [if_pos (inb_n h hn), nI_clamp (by omega)]
theorem up_s {f : Nat → Int32} {k : Nat} {x : Int32} : upd f k x k = x := pk_us
theorem up_n {f : Nat → Int32} {k j : Nat} {x : Int32} (h : j ≠ k) : upd f k x j = f j := pk_un h
/-- a loop that counts up to e, its state at k given by G's own second place -/
theorem lpS {ρ : Type} (G : Nat → Nat → ρ) (e : Nat) (out : ρ) (hs : ∀ n k, k < e → G (n + 1) k = G n (k + 1)) (hx : ∀ n, G (n + 1) e = out) : ∀ N k, k ≤ e → e - k < N → G N k = out := by
  intro N
  induction N with
  | zero => intro k h1 h2; omega
  | succ N ih =>
    intro k h1 h2
    by_cases h : k = e
    · subst h; exact hx N
    · rw [hs N k (by omega)]
      exact ih (k + 1) (by omega) (by omega)
/-- and one that may stop early -/
theorem lpE {ρ : Type} (G : Nat → Nat → ρ) (e : Nat) (out : ρ) (st : Nat → Option ρ) (hs : ∀ n k, k < e → st k = none → G (n + 1) k = G n (k + 1)) (hq : ∀ n k r, k < e → st k = some r → G (n + 1) k = r) (hx : ∀ n, G (n + 1) e = out) : ∀ N k, k ≤ e → e - k < N → (∀ j, k ≤ j → j < e → st j = none) ∧ G N k = out ∨ ∃ j r, k ≤ j ∧ j < e ∧ (∀ i, k ≤ i → i < j → st i = none) ∧ st j = some r ∧ G N k = r := by
  intro N
  induction N with
  | zero => intro k h1 h2; omega
  | succ N ih =>
    intro k h1 h2
    by_cases h : k = e
    · subst h; exact Or.inl ⟨fun j h1 h2 => by omega, hx N⟩
    · cases hk : st k with
      | some r => exact Or.inr ⟨k, r, Nat.le_refl k, by omega, fun i h1 h2 => by omega, hk, hq N k r (by omega) hk⟩
      | none =>
        rw [hs N k (by omega) hk]
        rcases ih (k + 1) (by omega) (by omega) with ⟨h3, h4⟩ | ⟨j, r, h3, h4, h5, h6, h7⟩
        · refine Or.inl ⟨fun j h5 h6 => ?_, h4⟩
          by_cases hj : j = k
          · subst hj; exact hk
          · exact h3 j (by omega) h6
        · refine Or.inr ⟨j, r, by omega, h4, fun i h8 h9 => ?_, h6, h7⟩
          by_cases hi : i = k
          · subst hi; exact hk
          · exact h5 i (by omega) h9
/-! bits of small sets -/
def maskN (P : Nat → Bool) : Nat → Nat
  | 0 => 0
  | n + 1 => maskN P n ||| (if P n then 2 ^ n else 0)
theorem maskN_lt (P : Nat → Bool) : ∀ n, maskN P n < 2 ^ n
  | 0 => by simp [maskN]
  | n + 1 => by
    have ih := maskN_lt P n
    unfold maskN
    apply Nat.or_lt_two_pow
    · calc maskN P n < 2 ^ n := ih
        _ ≤ 2 ^ (n + 1) := Nat.pow_le_pow_right (by omega) (by omega)
    · split
      · exact Nat.pow_lt_pow_right (by omega) (by omega)
      · exact Nat.pow_pos (by omega)
theorem maskN_bit (P : Nat → Bool) (k : Nat) : ∀ n, (maskN P n).testBit k = (decide (k < n) && P k)
  | 0 => by simp [maskN]
  | n + 1 => by
    have ih := maskN_bit P k n
    unfold maskN
    rw [Nat.testBit_or, ih]
    by_cases h : k = n
    · subst h
      cases hp : P k <;> simp [hp]
    · have h1 : (if P n then 2 ^ n else 0).testBit k = false := by
        split
        · rw [Nat.testBit_two_pow]; simp; omega
        · simp
      rw [h1]
      have : (decide (k < n + 1)) = decide (k < n) := by
        by_cases h2 : k < n
        · simp [h2]; omega
        · simp [h2]; omega
      rw [this]; simp
theorem maskN_cong {P P' : Nat → Bool} : ∀ {n : Nat}, (∀ k, k < n → P k = P' k) → maskN P n = maskN P' n
  | 0, _ => rfl
  | n + 1, h => by
    unfold maskN
    rw [maskN_cong (n := n) (fun k hk => h k (by omega)), h n (by omega)]
theorem maskN_5 {P : Nat → Bool} {n : Nat} (h : n ≤ 5) (hp : ∀ k, n ≤ k → k < 5 → P k = false) : maskN P n = maskN P 5 := by
  apply Nat.eq_of_testBit_eq
  intro k
  rw [maskN_bit, maskN_bit]
  by_cases h1 : k < n
  · simp [h1, show k < 5 by omega]
  · by_cases h2 : k < 5
    · simp [h1, h2, hp k (by omega) h2]
    · simp [h1, h2]
theorem mask5 (P : Nat → Bool) {n : Nat} (h : n ≤ 5) : maskN P n < 32 := Nat.lt_of_lt_of_le (maskN_lt P n) (Nat.pow_le_pow_right (by omega) h : 2 ^ n ≤ 2 ^ 5)
theorem sm_or : ∀ a, a < 32 → ∀ k, k < 5 → nI a ||| slI 1 (nI k) = nI (a ||| 2 ^ k) := by decide +kernel
theorem sm_or0 : ∀ a, a < 32 → nI a ||| 0 = nI a := by decide +kernel
theorem sm_bit : ∀ a, a < 32 → ∀ k, k < 5 → (srI (nI a) (nI k) &&& 1) = (if a.testBit k then 1 else 0) := by decide +kernel
theorem sm_and0 : ∀ a, a < 32 → ∀ k, k < 5 → (nI a &&& slI 1 (nI k)) = (if a.testBit k then nI (2 ^ k) else 0) := by decide +kernel
def pop5 (m : Nat) : Nat := (if m.testBit 0 then 1 else 0) + (if m.testBit 1 then 1 else 0) + (if m.testBit 2 then 1 else 0) + (if m.testBit 3 then 1 else 0) + (if m.testBit 4 then 1 else 0)
theorem bc5 : ∀ m, m < 32 → f_Int_bitCount (nI m) = some (nI (pop5 m)) := by decide +kernel
theorem mn5 : ∀ m, m < 32 → f_PM_many (nI m) = some (nI (pop5 m)) := by decide +kernel
theorem has5 : ∀ m, m < 32 → ∀ k, k < 5 → f_PM_has (nI m) (nI k) = some (if m.testBit k then 1 else 0) := by decide +kernel
theorem ne9 {k : Nat} (h : k < 2 ^ 31) : ¬ nI k = -9 := by
  intro e
  have h1 := congrArg Int32.toInt e
  rw [nI_toInt h] at h1
  have : ((-9 : Int32)).toInt = -9 := by decide
  omega
theorem nI_inj {a b : Nat} (ha : a < 2 ^ 31) (hb : b < 2 ^ 31) (h : nI a = nI b) : a = b := (nI_eq ha hb).mp h
/-! the model's tests -/
theorem pm_in {v a b : Int64} : f_PM_in v a b = some (if a ≤ v ∧ v ≤ b then 1 else 0) := by
  have h1 : lg_cmp v a < 0 ↔ ¬ a ≤ v := by
    rw [← lg_cmp_ge, Int32.not_le]
  have h2 : 0 < lg_cmp v b ↔ ¬ v ≤ b := by
    rw [← lg_cmp_le, Int32.not_le]
  unfold f_PM_in f_PM_in_17 f_PM_in_18
  by_cases c1 : a ≤ v <;> by_cases c2 : v ≤ b <;> simp [h1, h2, c1, c2]
theorem i64_le {a b : Int32} : a.toInt64 ≤ b.toInt64 ↔ a.toInt ≤ b.toInt := by
  rw [Int64.le_iff_toInt_le, Int32.toInt_toInt64, Int32.toInt_toInt64]
theorem in_lit {x : Int32} {lo hi : Nat} (hlo : lo < 2 ^ 31) (hhi : hi < 2 ^ 31) {a b : Int64} (ha : a = (nI lo).toInt64) (hb : b = (nI hi).toInt64) : f_PM_in x.toInt64 a b = some (if (lo : Int) ≤ x.toInt ∧ x.toInt ≤ (hi : Int) then 1 else 0) := by
  subst ha; subst hb
  rw [pm_in]
  simp only [i64_le, nI_toInt hlo, nI_toInt hhi]
