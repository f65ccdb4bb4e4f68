/-! strokes and peace -/
def leastI (x bc bl : Int32) : Prop := (x = -9 ∧ bc = -9 ∧ bl = -9) ∨ ∃ b, b < 81 ∧ x = nI (figK b) ∧ bc = nI (figK b) ∧ bl = nI (layK b)
theorem ne2 {m : Nat} (h : m < 2 ^ 31) : ¬ nI m = -2 := fun e => by
  have h1 := congrArg Int32.toInt e
  rw [nI_toInt h, show ((-2 : Int32)).toInt = -2 by decide] at h1
  omega
theorem least_step {n : Nat} {lay kinds pats wanted layer cab off pg : Nat → Int32} (hH : HallR n lay kinds pats wanted layer cab) (ho : Ob off) (hp : ∀ f, f < 4 → pg f = off f) {x1 x2 y1 : Int32} {P : Nat → Bool} (hP : ∀ m, m < 32 → ((nI m &&& x1) = x2 ↔ P m = true))
    (hT : ∀ (sh off' : Nat → Int32) (A B : Option (Int32 × Int32 × (Nat → Int32))), Ob off' → (∀ f, f < 4 → sh f = shN lay off' f) → (if y1 = -9 then ((f_PM_calledOf 15 (nI n) cab sh).bind fun r11 => if r11 = 0 then A else B) else ((f_PM_isCalled y1 15 cab sh).bind fun r8 => if r8 = 0 then B else A)) = if P (maskN (HC lay kinds wanted off') n) = true then A else B)
    {N M k : Nat} (hk : k < 81) (s : Int32 × (Nat → Int32)) (t : Int32 × Int32 × (Nat → Int32)) (hI : leastI s.1 t.1 t.2.1) : ∃ (s' : Int32 × (Nat → Int32)) (t' : Int32 × Int32 × (Nat → Int32)), leastI s'.1 t'.1 t'.2.1 ∧ f_PR_leastCleaning_6 (nI n) lay kinds wanted off (N + 1) x1 x2 s.1 (nI k) s.2 = f_PR_leastCleaning_6 (nI n) lay kinds wanted off N x1 x2 s'.1 (nI (k + 1)) s'.2 ∧ f_PM_findStrokes_14 (nI n) layer cab pg (M + 1) y1 (nI k) t.1 t.2.1 t.2.2 = f_PM_findStrokes_14 (nI n) layer cab pg M y1 (nI (k + 1)) t'.1 t'.2.1 t'.2.2 := by
  obtain ⟨x3, sC⟩ := s
  obtain ⟨bc, bl, sM⟩ := t
  dsimp only at hI ⊢
  obtain ⟨s1, e1⟩ := hailedBy_eq (kinds := kinds) (wanted := wanted) (lay := lay) hH.1 ho (figK_le k hk) sC
  obtain ⟨s2, e2, e3⟩ := layC_eq hH ho hp (figK_le k hk) sM
  have hlk := layK_le k hk
  -- whether the k-th is taken
  have hfew : ∃ few : Bool, (∀ (A B : Option (Int32 × Int32 × (Nat → Int32))), (if bc = -9 then A else (f_PM_layersOf (nI k)).bind fun r3 => if bl ≤ r3 then B else A) = if few = true then A else B) ∧ (∀ (A B : Option (Int32 × (Nat → Int32))), (if x3 = -9 then A else (f_PR_layersOf (nI (figK k))).bind fun r9 => (f_PR_layersOf x3).bind fun r11 => if r11 ≤ r9 then B else A) = if few = true then A else B) := by
    rcases hI with ⟨rfl, rfl, rfl⟩ | ⟨b, hb, rfl, rfl, rfl⟩
    · exact ⟨true, fun A B => by rw [if_pos rfl, if_pos rfl], fun A B => by rw [if_pos rfl, if_pos rfl]⟩
    · have hlb := layK_le b hb
      have hfb := figK_le b hb
      refine ⟨decide (¬ layK b ≤ layK k), fun A B => ?_, fun A B => ?_⟩
      · rw [if_neg (ne9 (by omega)), layOfM k hk, Option.bind_some]
        simp only [nI_leI (show layK b < 2 ^ 31 by omega) (show layK k < 2 ^ 31 by omega)]
        by_cases h : layK b ≤ layK k <;> simp [h]
      · rw [if_neg (ne9 (by omega)), layOfC k hk, Option.bind_some, layOfC b hb, Option.bind_some]
        simp only [nI_leI (show layK b < 2 ^ 31 by omega) (show layK k < 2 ^ 31 by omega)]
        by_cases h : layK b ≤ layK k <;> simp [h]
  obtain ⟨few, hfM, hfC⟩ := hfew
  have hC : f_PR_leastCleaning_6 (nI n) lay kinds wanted off (N + 1) x1 x2 x3 (nI k) sC = if (okC off (figK k) && (P (maskN (HC lay kinds wanted (offC off (figK k))) n) && few)) = true then f_PR_leastCleaning_6 (nI n) lay kinds wanted off N x1 x2 (nI (figK k)) (nI (k + 1)) s1 else f_PR_leastCleaning_6 (nI n) lay kinds wanted off N x1 x2 x3 (nI (k + 1)) s1 := by
    show f_PR_leastCleaning_6_b _ _ _ _ _ _ _ _ _ _ _ = _
    unfold f_PR_leastCleaning_6_b f_PR_leastCleaning_64 f_PR_leastCleaning_67
    rw [if_neg (show ¬ (81 : Int32) ≤ nI k from nI_ge (b := 81) hk (by omega)), asCl k hk, Option.bind_some, e1, Option.bind_some, nI_1]
    cases hk1 : okC off (figK k)
    · rw [if_neg (show ¬ (false = true) by decide)]
      dsimp only
      rw [if_pos rfl, if_neg (by simp)]
    · rw [if_pos rfl]
      dsimp only
      have hm := mask5 (HC lay kinds wanted (offC off (figK k))) hH.1
      rw [if_neg (ne2 (by omega)), hfC]
      by_cases hp1 : P (maskN (HC lay kinds wanted (offC off (figK k))) n) = true
      · rw [if_pos ((hP _ hm).mpr hp1), hp1]
        simp only [Bool.true_and]
      · rw [if_neg (fun h => hp1 ((hP _ hm).mp h)), if_neg (by simp [hp1])]
  have hM : ∃ s3, f_PM_findStrokes_14 (nI n) layer cab pg (M + 1) y1 (nI k) bc bl sM = if (okC off (figK k) && (P (maskN (HC lay kinds wanted (offC off (figK k))) n) && few)) = true then f_PM_findStrokes_14 (nI n) layer cab pg M y1 (nI (k + 1)) (nI (figK k)) (nI (layK k)) s3 else f_PM_findStrokes_14 (nI n) layer cab pg M y1 (nI (k + 1)) bc bl s3 := by
    have hx : f_PM_findStrokes_14 (nI n) layer cab pg (M + 1) y1 (nI k) bc bl sM = if few = true then (if okC off (figK k) = true then (if P (maskN (HC lay kinds wanted (offC off (figK k))) n) = true then f_PM_findStrokes_14 (nI n) layer cab pg M y1 (nI (k + 1)) (nI (figK k)) (nI (layK k)) s2 else f_PM_findStrokes_14 (nI n) layer cab pg M y1 (nI (k + 1)) bc bl s2) else f_PM_findStrokes_14 (nI n) layer cab pg M y1 (nI (k + 1)) bc bl s2) else f_PM_findStrokes_14 (nI n) layer cab pg M y1 (nI (k + 1)) bc bl sM := by
      show f_PM_findStrokes_14_b _ _ _ _ _ _ _ _ _ _ = _
      unfold f_PM_findStrokes_14_b f_PM_findStrokes_40 f_PM_findStrokes_45 f_PM_findStrokes_89 f_PM_findStrokes_105
      rw [if_neg (show ¬ (81 : Int32) ≤ nI k from nI_ge (b := 81) hk (by omega)), hfM, if_neg (show ¬ ((1 : Int32) = 0) by decide), if_pos (show (0 : Int32) = 0 from rfl), figOf k hk, Option.bind_some, e2, Option.bind_some, nI_1]
      dsimp only
      cases hk1 : okC off (figK k)
      · rw [if_neg (show ¬ (false = true) by decide), if_pos (show (0 : Int32) = 0 from rfl), if_neg (show ¬ (false = true) by decide)]
      · rw [if_pos (show true = true from rfl), if_neg (show ¬ ((1 : Int32) = 0) by decide), if_pos (show true = true from rfl), Option.bind_some, layOfM k hk, Option.bind_some, hT s2 _ _ _ (Ob_offC ho hk1) (e3 hk1)]
    cases hfw : few
    · refine ⟨sM, ?_⟩
      rw [hx, hfw, if_neg (show ¬ (false = true) by decide), if_neg (by simp)]
    · refine ⟨s2, ?_⟩
      rw [hx, hfw, if_pos (show true = true from rfl)]
      cases hk1 : okC off (figK k)
      · rw [if_neg (show ¬ (false = true) by decide), if_neg (by simp)]
      · rw [if_pos (show true = true from rfl)]
        by_cases hp1 : P (maskN (HC lay kinds wanted (offC off (figK k))) n) = true
        · rw [if_pos hp1, if_pos (by simp [hp1])]
        · rw [if_neg hp1, if_neg (by simp [hp1])]
  obtain ⟨s3, hM⟩ := hM
  by_cases hc : (okC off (figK k) && (P (maskN (HC lay kinds wanted (offC off (figK k))) n) && few)) = true
  · rw [if_pos hc] at hC hM
    exact ⟨(nI (figK k), s1), (nI (figK k), nI (layK k), s3), Or.inr ⟨k, hk, rfl, rfl, rfl⟩, hC, hM⟩
  · rw [if_neg hc] at hC hM
    exact ⟨(x3, s1), (bc, bl, s3), hI, hC, hM⟩
theorem least_loop {n : Nat} {lay kinds pats wanted layer cab off pg shC shM : Nat → Int32} (hH : HallR n lay kinds pats wanted layer cab) (ho : Ob off) (hp : ∀ f, f < 4 → pg f = off f) {x1 x2 y1 c0 c1 : Int32} {P : Nat → Bool} (hP : ∀ m, m < 32 → ((nI m &&& x1) = x2 ↔ P m = true))
    (hT : ∀ (sh off' : Nat → Int32) (A B : Option (Int32 × Int32 × (Nat → Int32))), Ob off' → (∀ f, f < 4 → sh f = shN lay off' f) → (if y1 = -9 then ((f_PM_calledOf 15 (nI n) cab sh).bind fun r11 => if r11 = 0 then A else B) else ((f_PM_isCalled y1 15 cab sh).bind fun r8 => if r8 = 0 then B else A)) = if P (maskN (HC lay kinds wanted off') n) = true then A else B) :
    ∃ r r', f_PR_leastCleaning x1 x2 (nI n) lay kinds wanted off shC = some r ∧ f_PM_findStrokes y1 (nI n) layer cab pg c0 c1 shM = some r' ∧ leastI r.1 r'.1 r'.2.1 := by
  unfold f_PR_leastCleaning f_PM_findStrokes
  refine lpJ (fun N k (s : Int32 × (Nat → Int32)) => f_PR_leastCleaning_6 (nI n) lay kinds wanted off N x1 x2 s.1 (nI k) s.2) (fun N k (t : Int32 × Int32 × (Nat → Int32)) => f_PM_findStrokes_14 (nI n) layer cab pg N y1 (nI k) t.1 t.2.1 t.2.2) (fun _ s t => leastI s.1 t.1 t.2.1) 81 (fun r r' => leastI r.1 r'.1 r'.2.1) ?_ ?_ 81 0 (-9, shC) (-9, -9, shM) 300 300 rfl (by omega) (by omega) (Or.inl ⟨rfl, rfl, rfl⟩)
  · intro N M k s t hk hI
    exact Or.inl (least_step hH ho hp hP hT hk s t hI)
  · intro N M s t hI
    refine ⟨s, t, ?_, ?_, hI⟩
    · show f_PR_leastCleaning_6_b _ _ _ _ _ _ _ _ _ _ _ = _
      unfold f_PR_leastCleaning_6_b
      rw [if_pos (show (81 : Int32) ≤ nI 81 by decide)]
    · show f_PM_findStrokes_14_b _ _ _ _ _ _ _ _ _ _ = _
      unfold f_PM_findStrokes_14_b
      rw [if_pos (show (81 : Int32) ≤ nI 81 by decide)]
theorem tell_eq {x bc bl i : Int32} (h : leastI x bc bl) : f_PR_tellCleaning x i = some (if i = 0 then bc else bl) := by
  unfold f_PR_tellCleaning f_PR_tellCleaning_10 f_PR_tellCleaning_18
  rcases h with ⟨rfl, rfl, rfl⟩ | ⟨b, hb, rfl, rfl, rfl⟩
  · rw [if_pos rfl]; by_cases h0 : i = 0 <;> simp [h0]
  · have hfb := figK_le b hb
    rw [if_neg (ne9 (by omega)), layOfC b hb, Option.bind_some]
    by_cases h0 : i = 0 <;> simp [h0]
theorem sm_31 : ∀ m, m < 32 → ((nI m &&& 31) = 0 ↔ (m == 0) = true) := by decide +kernel
theorem sm_c : ∀ c, c < 5 → ∀ m, m < 32 → ((nI m &&& slI 1 (nI c)) = slI 1 (nI c) ↔ m.testBit c = true) := by decide +kernel
theorem op_peace {K n : Nat} {lay kinds pats wanted layer cab off w pg shC shM : Nat → Int32} {nt th bc bl : Int32} (hH : HallR n lay kinds pats wanted layer cab) (hS : SceneR K n off w nt pg) (i : Int32) : ∃ r r', f_PR_peace i (nI n) lay kinds wanted off shC = some r ∧ f_PM_peace i (nI n) layer cab pg th bc bl shM = some r' ∧ r.1 = r'.1 := by
  obtain ⟨ho, -, L, -, hp⟩ := hS
  unfold f_PR_peace f_PM_peace f_PM_peace_39
  rcases one2 i with ⟨hi, e1, e2⟩ | ⟨e1, e2⟩
  · rw [e1, e2, Option.bind_some, Option.bind_some, if_neg (show ¬ ((1 : Int32) = 0) by decide), if_neg (show ¬ ((1 : Int32) = 0) by decide)]
    obtain ⟨r, r', h1, h2, h3⟩ := least_loop (shC := shC) (shM := shM) (c0 := bc) (c1 := bl) (y1 := -9) hH ho hp.1 sm_31 (fun sh off' A B ho' hs => by
      rw [if_pos rfl, called15 hH ho' hs, Option.bind_some]
      have hm := mask5 (HC lay kinds wanted off') hH.1
      by_cases h0 : maskN (HC lay kinds wanted off') n = 0
      · rw [h0, if_pos (show nI 0 = 0 from rfl), if_pos (by decide)]
      · rw [if_neg (nI_ne0 (by omega) (by omega)), if_neg (by simpa using h0)])
    rw [h1, h2, Option.bind_some, Option.bind_some, tell_eq (i := i) h3, Option.bind_some]
    by_cases h0 : i = 0
    · rw [if_pos h0, if_pos h0]; exact ⟨_, _, rfl, rfl, rfl⟩
    · rw [if_neg h0, if_neg h0]; exact ⟨_, _, rfl, rfl, rfl⟩
  · rw [e1, e2]; exact ⟨_, _, rfl, rfl, rfl⟩
/-- one cabman, by the fingers that show off' -/
theorem isC15 {n : Nat} {lay kinds pats wanted layer cab off sh : Nat → Int32} (hH : HallR n lay kinds pats wanted layer cab) (ho : Ob off) (hs : ∀ f, f < 4 → sh f = shN lay off f) {c : Nat} (hc : c < n) : f_PM_isCalled (nI c) 15 cab sh = some (if HC lay kinds wanted off c = true then 1 else 0) := by
  have hn := hH.1
  have h := isC_eq (cab := cab) (sh := sh) (c := c) (come := 15) (by omega) (by omega)
  rw [show (15 : Int32) = nI 15 from rfl, h]
  obtain ⟨⟨h1, -⟩, -, h3⟩ := hH.2.2 c hc
  rw [h1, calls_cong (sh' := shN lay off) (w' := fun f => wanted (4 * c + f)) hs (fun f hf => (h3 f hf).1), ← hails_15 (sh_ne hH ho)]
  rfl
theorem op_strokes {K n : Nat} {lay kinds pats wanted layer cab off w pg shC shM : Nat → Int32} {nt th bc bl : Int32} (hH : HallR n lay kinds pats wanted layer cab) (hS : SceneR K n off w nt pg) (i j : Int32) : ∃ r r', f_PR_strokes i j (nI n) lay kinds wanted off shC = some r ∧ f_PM_strokes i j (nI n) layer cab pg th bc bl shM = some r' ∧ r.1 = r'.1 := by
  obtain ⟨ho, -, L, -, hp⟩ := hS
  have hn := hH.1
  unfold f_PR_strokes f_PM_strokes f_PM_strokes_48
  rcases cabm hn i with ⟨c, hc, rfl, e3, e4⟩ | ⟨e3, e4, -⟩
  · rw [e3, e4, Option.bind_some, Option.bind_some, if_neg (show ¬ ((1 : Int32) = 0) by decide), if_pos (show (0 : Int32) = 0 from rfl)]
    rcases one2 j with ⟨hi, e1, e2⟩ | ⟨e1, e2⟩
    · rw [e1, e2, Option.bind_some, Option.bind_some, if_neg (show ¬ ((1 : Int32) = 0) by decide), if_neg (show ¬ ((1 : Int32) = 0) by decide)]
      obtain ⟨r, r', h1, h2, h3⟩ := least_loop (shC := shC) (shM := shM) (c0 := bc) (c1 := bl) (y1 := nI c) (P := fun m => m.testBit c) hH ho hp.1 (sm_c c (by omega)) (fun sh off' A B ho' hs => by
        rw [if_neg (ne9 (by omega)), isC15 hH ho' hs hc, Option.bind_some, maskN_bit]
        simp only [hc, decide_true, Bool.true_and]
        cases HC lay kinds wanted off' c
        · rw [if_neg (show ¬ (false = true) by decide), if_pos (show (0 : Int32) = 0 from rfl), if_neg (show ¬ (false = true) by decide)]
        · rw [if_pos (show true = true from rfl), if_neg (show ¬ ((1 : Int32) = 0) by decide), if_pos (show true = true from rfl)])
      rw [h1, h2, Option.bind_some, Option.bind_some, tell_eq (i := j) h3, Option.bind_some]
      by_cases h0 : j = 0
      · rw [if_pos h0, if_pos h0]; exact ⟨_, _, rfl, rfl, rfl⟩
      · rw [if_neg h0, if_neg h0]; exact ⟨_, _, rfl, rfl, rfl⟩
    · rw [e1, e2]; exact ⟨_, _, rfl, rfl, rfl⟩
  · rw [e3, e4]; exact ⟨_, _, rfl, rfl, rfl⟩
