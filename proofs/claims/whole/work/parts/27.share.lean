/-! shares -/
def vC (n : Nat) (lay kinds wanted off : Nat → Int32) (come : Nat) : Nat := pop5 (maskN (fun c => callsB (kinds c) (fun f => wanted (4 * c + f)) (shN lay off) come) n)
theorem vC_le {n : Nat} (hn : n ≤ 5) {lay kinds wanted off : Nat → Int32} {come : Nat} : vC n lay kinds wanted off come ≤ 5 := pop5_le _ (mask5 _ hn)
theorem pop_mono {P P' : Nat → Bool} {n : Nat} (h : ∀ c, P c = true → P' c = true) : pop5 (maskN P n) ≤ pop5 (maskN P' n) := by
  simp only [pop5, maskN_bit]
  have key : ∀ k, (if (decide (k < n) && P k) = true then 1 else 0) ≤ (if (decide (k < n) && P' k) = true then 1 else 0) := by
    intro k
    by_cases hk : k < n
    · simp only [hk, decide_true, Bool.true_and]
      by_cases hp : P k = true
      · rw [if_pos hp, if_pos (h k hp)]; omega
      · rw [if_neg hp]; omega
    · simp [hk]
  have h0 := key 0; have h1 := key 1; have h2 := key 2; have h3 := key 3; have h4 := key 4
  omega
theorem calls_mono {kd : Int32} {w sh : Nat → Int32} {a b : Nat} (h : ∀ k, k < 4 → a.testBit k = true → b.testBit k = true) (hc : callsB kd w sh a = true) : callsB kd w sh b = true := by
  have g : ∀ k x y, k < 4 → gB a k x y = true → gB b k x y = true := by
    intro k x y hk
    simp only [gB, Bool.and_eq_true]
    rintro ⟨h1, h2⟩
    exact ⟨h k hk h1, h2⟩
  unfold callsB at hc ⊢
  by_cases h1 : kd = 1
  · rw [if_pos h1, Bool.and_eq_true] at hc ⊢
    exact ⟨g 0 _ _ (by omega) hc.1, g 1 _ _ (by omega) hc.2⟩
  · rw [if_neg h1, Bool.and_eq_true, Bool.and_eq_true, Bool.and_eq_true, Bool.and_eq_true] at hc ⊢
    exact ⟨g 0 _ _ (by omega) hc.1, g 1 _ _ (by omega) hc.2.1, g 2 _ _ (by omega) hc.2.2.1, g 3 _ _ (by omega) hc.2.2.2.1, hc.2.2.2.2⟩
theorem orb : ∀ a, a < 16 → ∀ f, f < 4 → (a ||| 2 ^ f) < 16 ∧ nI a ||| slI 1 (nI f) = nI (a ||| 2 ^ f) ∧ ∀ k, k < 4 → a.testBit k = true → (a ||| 2 ^ f).testBit k = true := by decide +kernel
theorem vC_mono {n : Nat} {lay kinds wanted off : Nat → Int32} {a f : Nat} (ha : a < 16) (hf : f < 4) : vC n lay kinds wanted off a ≤ vC n lay kinds wanted off (a ||| 2 ^ f) := pop_mono (fun c hc => calls_mono (orb a ha f hf).2.2 hc)
/-- the class: whom those fingers call that have come -/
theorem whenCome_eq {n : Nat} {lay kinds pats wanted layer cab off : Nat → Int32} (hH : HallR n lay kinds pats wanted layer cab) (ho : Ob off) {come : Nat} (hc : come < 16) (sh : Nat → Int32) : ∃ sh', f_PR_hailedWhenCome (nI come) (nI n) lay kinds wanted off sh = some (nI (vC n lay kinds wanted off come), sh') := by
  refine ⟨fillN (fun f => if come.testBit f then shN lay off f else -1) sh 4, ?_⟩
  have h0 : f_PR_hailedWhenCome (nI come) (nI n) lay kinds wanted off sh = f_PR_hailedWhenCome_2 (nI n) lay kinds wanted off 300 (nI come) (nI 0) (fillN (fun f => if come.testBit f then shN lay off f else -1) sh 0) := by rw [fillN_0]; rfl
  rw [h0]
  refine lpS (fun N k => f_PR_hailedWhenCome_2 (nI n) lay kinds wanted off N (nI come) (nI k) (fillN (fun f => if come.testBit f then shN lay off f else -1) sh k)) 4 _ ?_ ?_ 300 0 (by omega) (by omega)
  · intro N k hk
    obtain ⟨x, hx, hxe⟩ := ho k hk
    show f_PR_hailedWhenCome_2_b _ _ _ _ _ _ _ _ _ = _
    unfold f_PR_hailedWhenCome_2_b f_PR_hailedWhenCome_30 f_Hand_show f_Hand_show_14
    rw [if_neg (show ¬ (4 : Int32) ≤ nI k from nI_ge (b := 4) hk (by omega)), sm_bit come (by omega) k (by omega), shown_n hk hx hxe, isF_n hk, Option.bind_some, Option.bind_some, Option.bind_some]
    simp only [show ¬ ((1 : Int32) = 0) by decide, if_false]
    rw [wr_n hk (by omega), wr_n hk (by omega), Option.bind_some, Option.bind_some, Option.bind_some, Option.bind_some, nI_1]
    cases hb : come.testBit k
    · rw [if_neg (by simp), fillN_s (by rw [hb]; simp)]
    · rw [if_pos (by simp), fillN_s (by rw [hb]; simp; exact (shN_o hx hxe).symm)]
  · intro N
    show f_PR_hailedWhenCome_2_b _ _ _ _ _ _ _ _ _ = _
    unfold f_PR_hailedWhenCome_2_b
    rw [if_pos (show (4 : Int32) ≤ nI 4 by decide), hailed_eq hH.1, Option.bind_some, bc5 _ (mask5 _ hH.1), Option.bind_some]
    unfold vC
    rw [maskN_cong (P' := fun c => callsB (kinds c) (fun f => wanted (4 * c + f)) (shN lay off) come)]
    intro c hc
    rw [← hails_calls (sh_ne hH ho)]
    exact hails_cong (fun f hf => fillN_in hf)
theorem calledCome {n : Nat} {lay kinds pats wanted layer cab off sh : Nat → Int32} (hH : HallR n lay kinds pats wanted layer cab) (hs : ∀ f, f < 4 → sh f = shN lay off f) {come : Nat} (hc : come < 16) : f_PM_calledOf (nI come) (nI n) cab sh = some (nI (maskN (fun c => callsB (kinds c) (fun f => wanted (4 * c + f)) (shN lay off) come) n)) := by
  rw [calledOf_eq hH.1 (by omega), maskN_cong (P' := fun c => callsB (kinds c) (fun f => wanted (4 * c + f)) (shN lay off) come)]
  intro c hc
  obtain ⟨⟨h1, -⟩, -, h3⟩ := hH.2.2 c hc
  rw [h1, calls_cong (sh' := shN lay off) (w' := fun f => wanted (4 * c + f)) hs (fun f hf => (h3 f hf).1)]
def ordN (k : Nat) : Nat := if k = 0 ∨ k = 3 then 6 else 2
theorem ordC : ∀ a, a < 16 → ∀ f, f < 4 → a.testBit f = false → (f_Int_bitCount (nI a)).bind f_PR_ordersBehind = some (nI (ordN (pop5 a))) := by decide +kernel
theorem ordM : ∀ a, a < 16 → ∀ f, f < 4 → a.testBit f = false → pop5 a ≤ 3 ∧ (f_PM_ways (nI (pop5 a))).bind (fun r9 => (f_PM_ways (3 - nI (pop5 a))).bind fun r11 => some (r9 * r11)) = some (nI (ordN (pop5 a))) := by decide +kernel
/-- the sum of both sides, as far as k -/
def sumS (n : Nat) (lay kinds wanted off : Nat → Int32) (f : Nat) : Nat → Nat
  | 0 => 0
  | k + 1 => sumS n lay kinds wanted off f k + (if k.testBit f then 0 else ordN (pop5 k) * (vC n lay kinds wanted off (k ||| 2 ^ f) - vC n lay kinds wanted off k))
theorem sumS_le {n : Nat} (hn : n ≤ 5) {lay kinds wanted off : Nat → Int32} {f : Nat} : ∀ k, sumS n lay kinds wanted off f k ≤ 30 * k
  | 0 => by simp [sumS]
  | k + 1 => by
    have ih := sumS_le hn (lay := lay) (kinds := kinds) (wanted := wanted) (off := off) (f := f) k
    have h5 := vC_le hn (lay := lay) (kinds := kinds) (wanted := wanted) (off := off) (come := k ||| 2 ^ f)
    unfold sumS
    split
    · omega
    · have h6 : ordN (pop5 k) ≤ 6 := by unfold ordN; split <;> omega
      have h7 : ordN (pop5 k) * (vC n lay kinds wanted off (k ||| 2 ^ f) - vC n lay kinds wanted off k) ≤ 6 * 5 := Nat.mul_le_mul h6 (by omega)
      omega
theorem frac24 : ∀ s, s < 481 → (f_PR_fraction (nI s) 24 0 = f_PM_fraction (nI s) 24 0 ∧ (f_PR_fraction (nI s) 24 0).isSome = true) ∧ (f_PR_fraction (nI s) 24 1 = f_PM_fraction (nI s) 24 1 ∧ (f_PR_fraction (nI s) 24 1).isSome = true) := by decide +kernel
theorem share24 {n : Nat} {lay kinds pats wanted layer cab off pg sh val : Nat → Int32} {i u th : Int32} (hH : HallR n lay kinds pats wanted layer cab) (hs : ∀ f, f < 4 → sh f = shN lay off f) : ∃ val', f_PM_share_24 (nI n) layer cab pg 300 i u 0 th val sh = f_PM_share_55 (nI n) layer cab pg 300 i u 0 0 th val' sh ∧ ∀ k, k < 16 → val' k = nI (vC n lay kinds wanted off k) := by
  refine ⟨fillN (fun k => nI (vC n lay kinds wanted off k)) val 16, ?_, fun k hk => fillN_in hk⟩
  have h0 : f_PM_share_24 (nI n) layer cab pg 300 i u 0 th val sh = f_PM_share_24 (nI n) layer cab pg 300 i u (nI 0) th (fillN (fun k => nI (vC n lay kinds wanted off k)) val 0) sh := by rw [fillN_0]; rfl
  rw [h0]
  refine lpS (fun N k => f_PM_share_24 (nI n) layer cab pg N i u (nI k) th (fillN (fun k => nI (vC n lay kinds wanted off k)) val k) sh) 16 _ ?_ ?_ 300 0 (by omega) (by omega)
  · intro N k hk
    show f_PM_share_24_b _ _ _ _ _ _ _ _ _ _ _ = _
    unfold f_PM_share_24_b
    rw [if_neg (show ¬ (16 : Int32) ≤ nI k from nI_ge (b := 16) hk (by omega)), calledCome hH hs hk, Option.bind_some, mn5 _ (mask5 _ hH.1), Option.bind_some, wr_n hk (by omega), Option.bind_some, nI_1, fillN_s (g := fun k => nI (vC n lay kinds wanted off k)) (x := nI (pop5 (maskN (fun c => callsB (kinds c) (fun f => wanted (4 * c + f)) (shN lay off) k) n))) rfl]
  · intro N
    show f_PM_share_24_b _ _ _ _ _ _ _ _ _ _ _ = _
    unfold f_PM_share_24_b
    rw [if_pos (show (16 : Int32) ≤ nI 16 by decide)]
theorem op_share {K n : Nat} {lay kinds pats wanted layer cab off w pg shC shM val : Nat → Int32} {nt th u : Int32} (hH : HallR n lay kinds pats wanted layer cab) (hS : SceneR K n off w nt pg) (i : Int32) (hu : u = 0 ∨ u = 1) : ∃ r r', f_PR_share i u (nI n) lay kinds wanted off shC = some r ∧ f_PM_share i u (nI n) layer cab pg th val shM = some r' ∧ r.1 = r'.1 := by
  obtain ⟨ho, -, L, -, hp⟩ := hS
  unfold f_PR_share f_PM_share
  rcases fing i with ⟨f, hf, rfl, e1, e2⟩ | ⟨e1, e2⟩
  · rw [e1, e2, Option.bind_some, Option.bind_some, if_neg (show ¬ ((1 : Int32) = 0) by decide), if_pos (show (0 : Int32) = 0 from rfl), layShown_eq (fun j hj => (hH.2.1 j hj).1) ho hp.1, Option.bind_some]
    obtain ⟨val', e3, e4⟩ := share24 (i := nI f) (u := u) (th := 0) (pg := pg) (val := val) (off := off) hH (sh := fillN (shN lay off) shM 4) (fun f hf => fillN_in hf)
    rw [e3]
    have hs16 := sumS_le hH.1 (lay := lay) (kinds := kinds) (wanted := wanted) (off := off) (f := f) 16
    refine lpJ (fun N k (s : Nat → Int32) => f_PR_share_14 (nI n) lay kinds wanted off N (nI f) u (nI (sumS n lay kinds wanted off f k)) (nI k) s)
      (fun N k (_ : Unit) => f_PM_share_55 (nI n) layer cab pg N (nI f) u (nI (sumS n lay kinds wanted off f k)) (nI k) 0 val' (fillN (shN lay off) shM 4))
      (fun _ _ _ => True) 16 (fun r r' => r.1 = r'.1) ?_ ?_ 16 0 shC () 300 300 rfl (by omega) (by omega) trivial
    · rintro N M k s ⟨⟩ hk -
      left
      cases hb : k.testBit f
      · obtain ⟨o1, o2, -⟩ := orb k hk f hf
        obtain ⟨s1, w1⟩ := whenCome_eq (kinds := kinds) (wanted := wanted) hH ho o1 s
        obtain ⟨s2, w2⟩ := whenCome_eq (kinds := kinds) (wanted := wanted) hH ho hk s1
        have hmono := vC_mono (n := n) (lay := lay) (kinds := kinds) (wanted := wanted) (off := off) hk hf
        have hoC := ordC k hk f hf hb
        obtain ⟨hp3, hoM⟩ := ordM k hk f hf hb
        obtain ⟨r9, hr9, hoC⟩ := o_bind hoC
        obtain ⟨q9, hq9, hoM⟩ := o_bind hoM
        obtain ⟨q11, hq11, hoM⟩ := o_bind hoM
        have hoM := Option.some.inj hoM
        have hsum : nI (sumS n lay kinds wanted off f k) + nI (ordN (pop5 k)) * (nI (vC n lay kinds wanted off (k ||| 2 ^ f)) - nI (vC n lay kinds wanted off k)) = nI (sumS n lay kinds wanted off f (k + 1)) := by
          rw [pk_sub hmono, pk_mul, nI_add]
          congr 1
          show _ = sumS n lay kinds wanted off f k + _
          rw [hb]; rfl
        refine ⟨s2, (), trivial, ?_, ?_⟩
        · show f_PR_share_14_b _ _ _ _ _ _ _ _ _ _ _ = _
          unfold f_PR_share_14_b f_PR_share_63
          rw [if_neg (show ¬ (16 : Int32) ≤ nI k from nI_ge (b := 16) hk (by omega)), sm_bit k (by omega) f (by omega), hb, if_pos (by simp), o2, w1, Option.bind_some]
          dsimp only
          rw [w2, Option.bind_some, hr9, Option.bind_some, hoC, Option.bind_some]
          dsimp only
          rw [hsum, nI_1]
        · show f_PM_share_55_b _ _ _ _ _ _ _ _ _ _ _ _ = _
          unfold f_PM_share_55_b f_PM_share_114
          rw [if_neg (show ¬ (16 : Int32) ≤ nI k from nI_ge (b := 16) hk (by omega)), has5 k (by omega) f (by omega), hb, Option.bind_some, if_pos (by simp), mn5 k (by omega), Option.bind_some, hq9, Option.bind_some, hq11, Option.bind_some, o2, rd_n o1 (by omega), Option.bind_some, rd_n hk (by omega), Option.bind_some, e4 _ o1, e4 _ hk, hoM, hsum, nI_1]
      · have hsum : sumS n lay kinds wanted off f k = sumS n lay kinds wanted off f (k + 1) := by
          show _ = sumS n lay kinds wanted off f k + _
          rw [hb]; rfl
        refine ⟨s, (), trivial, ?_, ?_⟩
        · show f_PR_share_14_b _ _ _ _ _ _ _ _ _ _ _ = _
          unfold f_PR_share_14_b f_PR_share_63
          rw [if_neg (show ¬ (16 : Int32) ≤ nI k from nI_ge (b := 16) hk (by omega)), sm_bit k (by omega) f (by omega), hb, if_neg (by simp), hsum, nI_1]
        · show f_PM_share_55_b _ _ _ _ _ _ _ _ _ _ _ _ = _
          unfold f_PM_share_55_b f_PM_share_114
          rw [if_neg (show ¬ (16 : Int32) ≤ nI k from nI_ge (b := 16) hk (by omega)), has5 k (by omega) f (by omega), hb, Option.bind_some, if_neg (by simp), hsum, nI_1]
    · rintro N M s ⟨⟩ -
      have hfr : ∃ v, f_PR_fraction (nI (sumS n lay kinds wanted off f 16)) 24 u = some v ∧ f_PM_fraction (nI (sumS n lay kinds wanted off f 16)) 24 u = some v := by
        have h := frac24 (sumS n lay kinds wanted off f 16) (by omega)
        rcases hu with rfl | rfl
        · obtain ⟨v, hv⟩ := Option.isSome_iff_exists.mp h.1.2
          exact ⟨v, hv, by rw [← h.1.1]; exact hv⟩
        · obtain ⟨v, hv⟩ := Option.isSome_iff_exists.mp h.2.2
          exact ⟨v, hv, by rw [← h.2.1]; exact hv⟩
      obtain ⟨v, hv1, hv2⟩ := hfr
      refine ⟨(v, s), (v, 0, val', fillN (shN lay off) shM 4), ?_, ?_, rfl⟩
      · show f_PR_share_14_b _ _ _ _ _ _ _ _ _ _ _ = _
        unfold f_PR_share_14_b
        rw [if_pos (show (16 : Int32) ≤ nI 16 by decide), hv1, Option.bind_some]
      · show f_PM_share_55_b _ _ _ _ _ _ _ _ _ _ _ _ = _
        unfold f_PM_share_55_b
        rw [if_pos (show (16 : Int32) ≤ nI 16 by decide), hv2, Option.bind_some]
  · rw [e1, e2]; exact ⟨_, _, rfl, rfl, rfl⟩
