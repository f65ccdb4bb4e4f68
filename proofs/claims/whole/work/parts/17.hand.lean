/-! whom the hand calls in a scene, on both sides; a night of a scene -/
theorem hails_cong {kd : Int32} {w sh sh' : Nat → Int32} (h : ∀ f, f < 4 → sh f = sh' f) : hailsB kd w sh = hailsB kd w sh' := by
  simp only [hailsB, h 0 (by omega), h 1 (by omega), h 2 (by omega), h 3 (by omega)]
theorem calls_cong {kd : Int32} {w w' sh sh' : Nat → Int32} {come : Nat} (h : ∀ f, f < 4 → sh f = sh' f) (hw : ∀ f, f < 4 → w f = w' f) : callsB kd w sh come = callsB kd w' sh' come := by
  simp only [callsB, h 0 (by omega), h 1 (by omega), h 2 (by omega), h 3 (by omega), hw 0 (by omega), hw 1 (by omega), hw 2 (by omega), hw 3 (by omega)]
theorem hails_calls {kd : Int32} {w sh : Nat → Int32} {come : Nat} (hs : ∀ f, f < 4 → sh f ≠ -1) : hailsB kd w (fun f => if come.testBit f then sh f else -1) = callsB kd w sh come := by
  have h0 := beq_eq_false_iff_ne.mpr (hs 0 (by omega)); have h1 := beq_eq_false_iff_ne.mpr (hs 1 (by omega)); have h2 := beq_eq_false_iff_ne.mpr (hs 2 (by omega)); have h3 := beq_eq_false_iff_ne.mpr (hs 3 (by omega))
  unfold hailsB callsB okB gB
  dsimp only
  generalize come.testBit 0 = b0
  generalize come.testBit 1 = b1
  generalize come.testBit 2 = b2
  generalize come.testBit 3 = b3
  cases b0 <;> cases b1 <;> cases b2 <;> cases b3 <;> simp [h0, h1, h2, h3]
theorem hails_15 {kd : Int32} {w sh : Nat → Int32} (hs : ∀ f, f < 4 → sh f ≠ -1) : hailsB kd w sh = callsB kd w sh 15 := by
  rw [← hails_calls hs]
  apply hails_cong
  intro f hf
  rcases (show f = 0 ∨ f = 1 ∨ f = 2 ∨ f = 3 by omega) with rfl | rfl | rfl | rfl <;> rfl
def HC (lay kinds wanted off : Nat → Int32) (c : Nat) : Bool := hailsB (kinds c) (fun f => wanted (4 * c + f)) (shN lay off)
theorem sh_ne {n : Nat} {lay kinds pats wanted layer cab off : Nat → Int32} (hH : HallR n lay kinds pats wanted layer cab) (ho : Ob off) : ∀ f, f < 4 → shN lay off f ≠ -1 := by
  intro f hf
  obtain ⟨x, hx, hxe⟩ := ho f hf
  rw [shN_o hx hxe]
  obtain ⟨-, y, hy, hye⟩ := hH.2.1 (3 * f + x) (by omega)
  rw [hye]
  rcases (show y = 0 ∨ y = 1 ∨ y = 2 by omega) with rfl | rfl | rfl <;> decide
theorem hailedIn_eq {n : Nat} (hn : n ≤ 5) {lay kinds wanted off sh : Nat → Int32} (ho : Ob off) : f_PR_hailedIn (nI n) lay kinds wanted off sh = some (nI (maskN (HC lay kinds wanted off) n), fillN (shN lay off) sh 4) := by
  unfold f_PR_hailedIn
  rw [showAll_eq ho]
  simp only [Option.bind_some]
  rw [hailed_eq hn]
  simp only [Option.bind_some]
  rw [maskN_cong (P' := HC lay kinds wanted off)]
  intro k hk
  exact hails_cong (fun f hf => fillN_in hf)
theorem called15 {n : Nat} {lay kinds pats wanted layer cab off sh : Nat → Int32} (hH : HallR n lay kinds pats wanted layer cab) (ho : Ob off) (hs : ∀ f, f < 4 → sh f = shN lay off f) : f_PM_calledOf 15 (nI n) cab sh = some (nI (maskN (HC lay kinds wanted off) n)) := by
  have h := calledOf_eq (cab := cab) (sh := sh) hH.1 (show 15 < 32 by omega)
  rw [show (15 : Int32) = nI 15 from rfl, h, maskN_cong (P' := HC lay kinds wanted off)]
  intro c hc
  obtain ⟨⟨h1, -⟩, -, h3⟩ := hH.2.2 c hc
  rw [h1, calls_cong (sh' := shN lay off) (w' := fun f => wanted (4 * c + f)) hs (fun f hf => (h3 f hf).1)]
  exact (hails_15 (sh_ne hH ho)).symm
/-- the class's night of a scene -/
theorem prPass_eq {n : Nat} (hn : n ≤ 5) {lay kinds pats wanted off sh w : Nat → Int32} {nt : Int32} (ho : Ob off) (hw : ∀ c, n ≤ c → c < 5 → w c = -9) : f_PR_pass (nI n) lay kinds pats wanted off sh nt w = some (fillN (shN lay off) sh 4, nt + 1, fillN (nwC n (HC lay kinds wanted off) kinds pats w) w 5) := by
  unfold f_PR_pass
  rw [hailedIn_eq hn ho]
  simp only [Option.bind_some]
  rw [pass_eq hn hw]
  rfl
theorem night_R {K n : Nat} (hK : K < 2 ^ 30) {lay kinds pats wanted layer cab off w pg sh : Nat → Int32} {nt : Int32} (hH : HallR n lay kinds pats wanted layer cab) (hS : SceneR K n off w nt pg) : ∃ r, f_PM_goNight (nI n) layer cab sh pg = some r ∧ SceneR (K + 1) n off (fillN (nwC n (HC lay kinds wanted off) kinds pats w) w 5) (nt + 1) r.2 := by
  obtain ⟨ho, hw, L, hL, hp⟩ := hS
  unfold f_PM_goNight
  rw [layShown_eq (fun j hj => (hH.2.1 j hj).1) ho hp.1]
  simp only [Option.bind_some]
  rw [called15 hH ho (fun f hf => fillN_in hf), waitsOf_eq hp.2.1]
  simp only [Option.bind_some]
  obtain ⟨r, e1, -, e3⟩ := goN1 hH.1 (H := HC lay kinds wanted off) (sh := fillN (shN lay off) sh 4) (layer := layer) hw.2 hL (fun c hc => ⟨(hH.2.2 c hc).1.1, (hH.2.2 c hc).2.1.1⟩) hp
  obtain ⟨h1, h2⟩ := rank_night hH.1 hK (H := HC lay kinds wanted off) (kinds := kinds) (pats := pats) hw hL
  exact ⟨r, e1, ho, h2, _, h1, PageIs_cong e3 (fun c hc => (fillN_in hc).symm)⟩
/-! how many wait -/
theorem nd_le : ∀ (A B : List Nat), A.Nodup → (∀ c, c ∈ A → c ∈ B) → A.length ≤ B.length
  | [], B, _, _ => by simp
  | a :: t, B, hn, h => by
    rw [List.nodup_cons] at hn
    have h1 := nd_le t (B.erase a) hn.2 (fun c hc => by
      have hne : c ≠ a := fun e => hn.1 (e ▸ hc)
      exact (List.mem_erase_of_ne hne).mpr (h c (List.mem_cons_of_mem _ hc)))
    have h2 := List.length_erase_of_mem (h a List.mem_cons_self)
    have h3 : 0 < B.length := List.length_pos_of_mem (h a List.mem_cons_self)
    simp only [List.length_cons]
    omega
theorem cnt5 (P : Nat → Bool) : ((List.range 5).filter P).length = pop5 (maskN P 5) := by
  simp only [pop5, maskN_bit]
  show (List.filter P [0, 1, 2, 3, 4]).length = _
  cases h0 : P 0 <;> cases h1 : P 1 <;> cases h2 : P 2 <;> cases h3 : P 3 <;> cases h4 : P 4 <;> simp [List.filter, h0, h1, h2, h3, h4]
theorem rank_pop {w : Nat → Int32} {L : List Nat} (h : RankOK w L) : L.length = pop5 (maskN (fun c => !(w c == -9)) 5) := by
  rw [← cnt5]
  apply Nat.le_antisymm
  · apply nd_le _ _ h.1
    intro c hc
    have h1 := (h.2.1 c).mp hc
    exact List.mem_filter.mpr ⟨List.mem_range.mpr h1.1, by simp [h1.2]⟩
  · apply nd_le _ _ (List.Pairwise.filter _ List.nodup_range)
    intro c hc
    obtain ⟨h1, h2⟩ := List.mem_filter.mp hc
    exact (h.2.1 c).mpr ⟨List.mem_range.mp h1, by simpa using h2⟩
theorem many_w {w : Nat → Int32} : (f_Scene_waiting w).bind f_Int_bitCount = some (nI (pop5 (maskN (fun c => !(w c == -9)) 5))) := by
  rw [waiting_eq]
  simp only [Option.bind_some]
  exact bc5 _ (mask5 _ (by omega))
