/-! the best cleaning, strokes, peace: both loops side by side -/
theorem lpJ {σ τ ρ ρ' : Type} (F : Nat → Nat → σ → Option ρ) (G : Nat → Nat → τ → Option ρ') (I : Nat → σ → τ → Prop) (e : Nat) (Post : ρ → ρ' → Prop)
    (hs : ∀ n m k s t, k < e → I k s t → (∃ s' t', I (k + 1) s' t' ∧ F (n + 1) k s = F n (k + 1) s' ∧ G (m + 1) k t = G m (k + 1) t') ∨ ∃ r r', F (n + 1) k s = some r ∧ G (m + 1) k t = some r' ∧ Post r r')
    (hx : ∀ n m s t, I e s t → ∃ r r', F (n + 1) e s = some r ∧ G (m + 1) e t = some r' ∧ Post r r') : ∀ d k s t N M, k + d = e → d < N → d < M → I k s t → ∃ r r', F N k s = some r ∧ G M k t = some r' ∧ Post r r' := by
  intro d
  induction d with
  | zero =>
    intro k s t N M h1 h2 h3 hI
    obtain ⟨N', rfl⟩ : ∃ N', N = N' + 1 := ⟨N - 1, by omega⟩
    obtain ⟨M', rfl⟩ : ∃ M', M = M' + 1 := ⟨M - 1, by omega⟩
    have : k = e := by omega
    subst this
    exact hx N' M' s t hI
  | succ d ih =>
    intro k s t N M h1 h2 h3 hI
    obtain ⟨N', rfl⟩ : ∃ N', N = N' + 1 := ⟨N - 1, by omega⟩
    obtain ⟨M', rfl⟩ : ∃ M', M = M' + 1 := ⟨M - 1, by omega⟩
    rcases hs N' M' k s t (by omega) hI with ⟨s', t', hI', e1, e2⟩ | h
    · rw [e1, e2]
      exact ih (k + 1) s' t' N' M' (by omega) (by omega) (by omega) hI'
    · exact h
def figK (k : Nat) : Nat := 1000 * (k / 27) + 100 * (k / 9 % 3) + 10 * (k / 3 % 3) + k % 3
def layK (k : Nat) : Nat := k / 27 + k / 9 % 3 + k / 3 % 3 + k % 3
theorem figK_le : ∀ k, k < 81 → figK k ≤ 2222 := by decide +kernel
theorem asCl : ∀ k, k < 81 → f_PR_asCleaning (nI k) = some (nI (figK k)) := by decide +kernel
theorem figOf : ∀ k, k < 81 → f_PM_figuresOf (nI k) = some (nI (figK k)) := by decide +kernel
theorem layOfC : ∀ k, k < 81 → f_PR_layersOf (nI (figK k)) = some (nI (layK k)) := by decide +kernel
theorem layOfM : ∀ k, k < 81 → f_PM_layersOf (nI k) = some (nI (layK k)) := by decide +kernel
theorem layK_le : ∀ k, k < 81 → layK k ≤ 8 := by decide +kernel
theorem pop5_le : ∀ m, m < 32 → pop5 m ≤ 5 := by decide +kernel
theorem one2 (i : Int32) : ((i = 0 ∨ i = 1) ∧ f_PR_isOneOfTwo i = some 1 ∧ f_PM_in i.toInt64 0 1 = some 1) ∨ (f_PR_isOneOfTwo i = some 0 ∧ f_PM_in i.toInt64 0 1 = some 0) := by
  by_cases h0 : i = 0
  · subst h0; exact Or.inl ⟨Or.inl rfl, by decide, by decide⟩
  · by_cases h1 : i = 1
    · subst h1; exact Or.inl ⟨Or.inr rfl, by decide, by decide⟩
    · refine Or.inr ⟨?_, ?_⟩
      · unfold f_PR_isOneOfTwo f_PR_isOneOfTwo_14
        rw [if_neg h0, if_neg h1]; rfl
      · rw [in_lit (x := i) (lo := 0) (hi := 1) (by omega) (by omega) (a := 0) (b := 1) rfl rfl, if_neg]
        intro h
        have e0 : ¬ i.toInt = 0 := fun h => h0 ((i_eq (x := i) (k := 0) (y := 0) (by omega) rfl).mpr h)
        have e1 : ¬ i.toInt = 1 := fun h => h1 ((i_eq (x := i) (k := 1) (y := 1) (by omega) rfl).mpr h)
        omega
/-- the state of both searches: the best so far is the b-th -/
def bestI (s : Int32 × Int32 × (Nat → Int32)) (t : Int32 × Int32 × Int32 × (Nat → Int32)) : Prop := ∃ b mb, b < 81 ∧ mb ≤ 5 ∧ s.1 = nI (figK b) ∧ s.2.1 = nI mb ∧ t.1 = nI (figK b) ∧ t.2.1 = nI (layK b) ∧ t.2.2.1 = nI mb
theorem best_step {n : Nat} {lay kinds pats wanted layer cab off pg : Nat → Int32} (hH : HallR n lay kinds pats wanted layer cab) (ho : Ob off) (hp : ∀ f, f < 4 → pg f = off f) (i : Int32) {N M k : Nat} (hk : k < 81) (s : Int32 × Int32 × (Nat → Int32)) (t : Int32 × Int32 × Int32 × (Nat → Int32)) (hI : bestI s t) : ∃ s' t', bestI s' t' ∧ f_PR_best_24 (nI n) lay kinds wanted off (N + 1) i s.1 s.2.1 (nI k) s.2.2 = f_PR_best_24 (nI n) lay kinds wanted off N i s'.1 s'.2.1 (nI (k + 1)) s'.2.2 ∧ f_PM_findBest_8 (nI n) layer cab pg (M + 1) (nI k) t.1 t.2.1 t.2.2.1 t.2.2.2 = f_PM_findBest_8 (nI n) layer cab pg M (nI (k + 1)) t'.1 t'.2.1 t'.2.2.1 t'.2.2.2 := by
  obtain ⟨x2, x3, sC⟩ := s
  obtain ⟨bc, bl, bm, sM⟩ := t
  obtain ⟨b, mb, hb, hmb, rfl, rfl, rfl, rfl, rfl⟩ := hI
  dsimp only
  obtain ⟨s1, e1⟩ := hailedBy_eq (kinds := kinds) (wanted := wanted) (lay := lay) hH.1 ho (figK_le k hk) sC
  obtain ⟨s2, e2, e3⟩ := layC_eq hH ho hp (figK_le k hk) sM
  have hm := mask5 (HC lay kinds wanted (offC off (figK k))) hH.1
  have hp5 := pop5_le _ hm
  cases hk1 : okC off (figK k)
  · rw [hk1, if_neg (show ¬ (false = true) by decide)] at e1 e2
    refine ⟨(nI (figK b), nI mb, s1), (nI (figK b), nI (layK b), nI mb, s2), ⟨b, mb, hb, hmb, rfl, rfl, rfl, rfl, rfl⟩, ?_, ?_⟩
    · show f_PR_best_24_b _ _ _ _ _ _ _ _ _ _ _ = _
      unfold f_PR_best_24_b f_PR_best_93
      rw [if_neg (show ¬ (81 : Int32) ≤ nI k from nI_ge (b := 81) hk (by omega)), asCl k hk, Option.bind_some, e1, Option.bind_some, if_pos rfl, nI_1]
    · show f_PM_findBest_8_b _ _ _ _ _ _ _ _ _ _ = _
      unfold f_PM_findBest_8_b f_PM_findBest_83
      rw [if_neg (show ¬ (81 : Int32) ≤ nI k from nI_ge (b := 81) hk (by omega)), figOf k hk, Option.bind_some, e2, Option.bind_some, if_pos rfl, nI_1]
  · rw [hk1, if_pos rfl] at e1 e2
    have e4 := called15 hH (Ob_offC ho hk1) (e3 hk1)
    generalize hmk : maskN (HC lay kinds wanted (offC off (figK k))) n = mk at hm hp5 e1 e4
    have hC : f_PR_best_24 (nI n) lay kinds wanted off (N + 1) i (nI (figK b)) (nI mb) (nI k) sC = if mb < pop5 mk ∨ (pop5 mk = mb ∧ ¬ layK b ≤ layK k) then f_PR_best_24 (nI n) lay kinds wanted off N i (nI (figK k)) (nI (pop5 mk)) (nI (k + 1)) s1 else f_PR_best_24 (nI n) lay kinds wanted off N i (nI (figK b)) (nI mb) (nI (k + 1)) s1 := by
      show f_PR_best_24_b _ _ _ _ _ _ _ _ _ _ _ = _
      unfold f_PR_best_24_b f_PR_best_87 f_PR_best_93
      rw [if_neg (show ¬ (81 : Int32) ≤ nI k from nI_ge (b := 81) hk (by omega)), asCl k hk, Option.bind_some, e1, Option.bind_some, if_neg (show ¬ nI mk = -2 from fun e => by
        have h1 := congrArg Int32.toInt e
        rw [nI_toInt (by omega), show ((-2 : Int32)).toInt = -2 by decide] at h1
        omega), bc5 mk hm, Option.bind_some, layOfC k hk, Option.bind_some, layOfC b hb, Option.bind_some, nI_1]
      have hlk := layK_le k hk
      have hlb := layK_le b hb
      simp only [nI_ltI (show mb < 2 ^ 31 by omega) (show pop5 mk < 2 ^ 31 by omega), nI_eq (show pop5 mk < 2 ^ 31 by omega) (show mb < 2 ^ 31 by omega), nI_leI (show layK b < 2 ^ 31 by omega) (show layK k < 2 ^ 31 by omega)]
      by_cases h1 : mb < pop5 mk
      · rw [if_pos h1, if_pos (Or.inl h1)]
      · rw [if_neg h1]
        by_cases h2 : pop5 mk = mb
        · rw [if_pos h2]
          by_cases h3 : layK b ≤ layK k
          · rw [if_pos h3, if_neg (by omega)]
          · rw [if_neg h3, if_pos (Or.inr ⟨h2, h3⟩)]
        · rw [if_neg h2, if_neg (by omega)]
    have hM : f_PM_findBest_8 (nI n) layer cab pg (M + 1) (nI k) (nI (figK b)) (nI (layK b)) (nI mb) sM = if mb < pop5 mk ∨ (pop5 mk = mb ∧ ¬ layK b ≤ layK k) then f_PM_findBest_8 (nI n) layer cab pg M (nI (k + 1)) (nI (figK k)) (nI (layK k)) (nI (pop5 mk)) s2 else f_PM_findBest_8 (nI n) layer cab pg M (nI (k + 1)) (nI (figK b)) (nI (layK b)) (nI mb) s2 := by
      show f_PM_findBest_8_b _ _ _ _ _ _ _ _ _ _ = _
      unfold f_PM_findBest_8_b f_PM_findBest_62 f_PM_findBest_83
      rw [if_neg (show ¬ (81 : Int32) ≤ nI k from nI_ge (b := 81) hk (by omega)), figOf k hk, Option.bind_some, e2, Option.bind_some, if_neg (show ¬ ((1 : Int32) = 0) by decide), e4, Option.bind_some, mn5 mk hm, Option.bind_some, layOfM k hk, Option.bind_some, Option.bind_some, Option.bind_some, nI_1]
      have hlk := layK_le k hk
      have hlb := layK_le b hb
      simp only [nI_ltI (show mb < 2 ^ 31 by omega) (show pop5 mk < 2 ^ 31 by omega), nI_eq (show pop5 mk < 2 ^ 31 by omega) (show mb < 2 ^ 31 by omega), nI_leI (show layK b < 2 ^ 31 by omega) (show layK k < 2 ^ 31 by omega)]
      by_cases h1 : mb < pop5 mk
      · rw [if_pos h1, if_pos (Or.inl h1)]
      · rw [if_neg h1]
        by_cases h2 : pop5 mk = mb
        · rw [if_pos h2]
          by_cases h3 : layK b ≤ layK k
          · rw [if_pos h3, if_neg (by omega)]
          · rw [if_neg h3, if_pos (Or.inr ⟨h2, h3⟩)]
        · rw [if_neg h2, if_neg (by omega)]
    by_cases hc : mb < pop5 mk ∨ (pop5 mk = mb ∧ ¬ layK b ≤ layK k)
    · rw [if_pos hc] at hC hM
      exact ⟨(nI (figK k), nI (pop5 mk), s1), (nI (figK k), nI (layK k), nI (pop5 mk), s2), ⟨k, pop5 mk, hk, hp5, rfl, rfl, rfl, rfl, rfl⟩, hC, hM⟩
    · rw [if_neg hc] at hC hM
      exact ⟨(nI (figK b), nI mb, s1), (nI (figK b), nI (layK b), nI mb, s2), ⟨b, mb, hb, hmb, rfl, rfl, rfl, rfl, rfl⟩, hC, hM⟩
theorem best_loop {n : Nat} {lay kinds pats wanted layer cab off pg : Nat → Int32} (hH : HallR n lay kinds pats wanted layer cab) (ho : Ob off) (hp : ∀ f, f < 4 → pg f = off f) (i : Int32) (s : Int32 × Int32 × (Nat → Int32)) (t : Int32 × Int32 × Int32 × (Nat → Int32)) (hI : bestI s t) : ∃ r r', f_PR_best_24 (nI n) lay kinds wanted off 300 i s.1 s.2.1 1 s.2.2 = some r ∧ f_PM_findBest_8 (nI n) layer cab pg 299 (nI 1) t.1 t.2.1 t.2.2.1 t.2.2.2 = some r' ∧ r.1 = if i = 0 then r'.1 else r'.2.2.1 := by
  show ∃ r r', f_PR_best_24 (nI n) lay kinds wanted off 300 i s.1 s.2.1 (nI 1) s.2.2 = some r ∧ _
  refine lpJ (fun N k (s : Int32 × Int32 × (Nat → Int32)) => f_PR_best_24 (nI n) lay kinds wanted off N i s.1 s.2.1 (nI k) s.2.2) (fun N k (t : Int32 × Int32 × Int32 × (Nat → Int32)) => f_PM_findBest_8 (nI n) layer cab pg N (nI k) t.1 t.2.1 t.2.2.1 t.2.2.2) (fun _ s t => bestI s t) 81 (fun r r' => r.1 = if i = 0 then r'.1 else r'.2.2.1) ?_ ?_ 80 1 s t 300 299 rfl (by omega) (by omega) hI
  · intro N M k s t hk hI
    exact Or.inl (best_step hH ho hp i hk s t hI)
  · intro N M s t hI
    obtain ⟨x2, x3, sC⟩ := s
    obtain ⟨bc, bl, bm, sM⟩ := t
    obtain ⟨b, mb, hb, hmb, rfl, rfl, rfl, rfl, rfl⟩ := hI
    refine ⟨(if i = 0 then nI (figK b) else nI mb, sC), (nI (figK b), nI (layK b), nI mb, sM), ?_, ?_, rfl⟩
    · show f_PR_best_24_b _ _ _ _ _ _ _ _ _ _ _ = _
      unfold f_PR_best_24_b f_PR_best_108
      rw [if_pos (show (81 : Int32) ≤ nI 81 by decide)]
      by_cases h0 : i = 0 <;> simp [h0]
    · show f_PM_findBest_8_b _ _ _ _ _ _ _ _ _ _ = _
      unfold f_PM_findBest_8_b
      rw [if_pos (show (81 : Int32) ≤ nI 81 by decide)]
theorem okC_0 {off : Nat → Int32} (ho : Ob off) : okC off 0 = true := by
  have h0 := (Ob_cl ho 0 (by omega)).1
  have h1 := (Ob_cl ho 1 (by omega)).1
  have h2 := (Ob_cl ho 2 (by omega)).1
  have h3 := (Ob_cl ho 3 (by omega)).1
  have d : ∀ f, dg 0 f = 0 := fun f => by unfold dg; simp
  simp only [okC, d, Bool.and_eq_true, decide_eq_true_eq]
  omega
theorem op_best {K n : Nat} {lay kinds pats wanted layer cab off w pg shC shM : Nat → Int32} {nt th bc bl bm : Int32} (hH : HallR n lay kinds pats wanted layer cab) (hS : SceneR K n off w nt pg) (i : Int32) : ∃ r r', f_PR_best i (nI n) lay kinds wanted off shC = some r ∧ f_PM_best i (nI n) layer cab pg th bc bl bm shM = some r' ∧ r.1 = r'.1 := by
  obtain ⟨ho, -, L, -, hp⟩ := hS
  unfold f_PR_best f_PM_best f_PM_best_37
  rcases one2 i with ⟨hi, e1, e2⟩ | ⟨e1, e2⟩
  · rw [e1, e2, Option.bind_some, Option.bind_some, if_neg (show ¬ ((1 : Int32) = 0) by decide), if_neg (show ¬ ((1 : Int32) = 0) by decide)]
    obtain ⟨s1, e3⟩ := hailedBy_eq (kinds := kinds) (wanted := wanted) (lay := lay) hH.1 ho (k := 0) (by omega) shC
    obtain ⟨s2, e4, e5⟩ := layC_eq hH ho hp.1 (k := 0) (by omega) shM
    have hk1 := okC_0 ho
    rw [hk1, if_pos rfl] at e3 e4
    have e6 := called15 hH (Ob_offC ho hk1) (e5 hk1)
    have hm := mask5 (HC lay kinds wanted (offC off 0)) hH.1
    generalize maskN (HC lay kinds wanted (offC off 0)) n = mk at hm e3 e6
    have hM : f_PM_findBest (nI n) layer cab pg bc bl bm shM = f_PM_findBest_8 (nI n) layer cab pg 299 (nI 1) (nI (figK 0)) (nI (layK 0)) (nI (pop5 mk)) s2 := by
      unfold f_PM_findBest
      show f_PM_findBest_8 (nI n) layer cab pg (299 + 1) (nI 0) bc bl (-9) shM = _
      show f_PM_findBest_8_b _ _ _ _ _ _ _ _ _ _ = _
      unfold f_PM_findBest_8_b f_PM_findBest_62 f_PM_findBest_83
      rw [if_neg (show ¬ (81 : Int32) ≤ nI 0 by decide), figOf 0 (by omega), Option.bind_some, show nI (figK 0) = nI 0 from rfl, e4, Option.bind_some, if_neg (show ¬ ((1 : Int32) = 0) by decide), e6, Option.bind_some, mn5 mk hm, Option.bind_some, if_pos (show (-9 : Int32) < nI (pop5 mk) by
        rw [Int32.lt_iff_toInt_lt, nI_toInt (by have := pop5_le mk hm; omega), show ((-9 : Int32)).toInt = -9 by decide]; omega), layOfM 0 (by omega), Option.bind_some, Option.bind_some, nI_1]
    have e7 : f_PR_hailedBy 0 (nI n) lay kinds wanted off shC = some (nI mk, s1) := e3
    rw [e7, Option.bind_some, bc5 mk hm, Option.bind_some, hM]
    obtain ⟨r, r', h1, h2, h3⟩ := best_loop hH ho hp.1 i (0, nI (pop5 mk), s1) (nI (figK 0), nI (layK 0), nI (pop5 mk), s2) ⟨0, pop5 mk, by omega, pop5_le mk hm, rfl, rfl, rfl, rfl, rfl⟩
    refine ⟨r, (r.1, 0, r'.1, r'.2.1, r'.2.2.1, r'.2.2.2), h1, ?_, rfl⟩
    dsimp only at h2
    rw [h2, Option.bind_some, h3]
    by_cases h0 : i = 0
    · rw [if_pos h0, if_pos h0]
    · rw [if_neg h0, if_neg h0]
  · rw [e1, e2]; exact ⟨_, _, rfl, rfl, rfl⟩
