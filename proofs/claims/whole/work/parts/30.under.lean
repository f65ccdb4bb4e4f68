/-! what may be under the paint -/
def rowL (row o : Nat) : Nat := row / 3 ^ (2 - o) % 3
theorem rowC : ∀ row, row < 27 → ∀ o, o < 3 → f_PR_layerOfRow (nI row) (nI o) = some (nI (rowL row o)) := by decide +kernel
theorem rowP : ∀ o, o < 3 → f_PM_power 3 (2 - nI o) = some (nI (3 ^ (2 - o))) ∧ ¬ nI (3 ^ (2 - o)) = 0 := by decide +kernel
theorem rowM : ∀ row, row < 27 → ∀ o, o < 3 → rmI (nI row / nI (3 ^ (2 - o))) 3 = nI (rowL row o) := by decide +kernel
theorem rowB : ∀ row, row < 27 → ∀ o, o < 3 → ¬ nI (rowL row o) = -1 := by decide +kernel
/-- whether what is seen as the k-th is so, with that row of layers -/
def condU (n f row : Nat) (lay kinds wanted off sC sF sO sK : Nat → Int32) (k : Nat) : Bool :=
  if (sF k).toNatClampNeg = f ∧ (sC k).toNatClampNeg < n then
    (hailsB (kinds (sC k).toNatClampNeg) (fun g => wanted (4 * (sC k).toNatClampNeg + g)) (upd (shN lay off) f (nI (rowL row (sO k).toNatClampNeg))) == (sK k == 1)) else true
def allU (P : Nat → Bool) : Nat → Nat → Bool
  | _, 0 => true
  | k, d + 1 => P k && allU P (k + 1) d
theorem seen_at {q k j : Nat} (hq : q ≤ 6) (hk : k < q) (hj : j < 4) (rows : Nat → Int32) : f_Seen_at (nI k) (nI j) (nI q) rows = some (rows (4 * k + j)) := by
  unfold f_Seen_at f_Seen_at_26 f_Seen_at_46
  rw [if_neg (nI_pos (by omega)), if_neg (nI_ge hk (by omega)), if_neg (nI_pos (by omega)), if_neg (show ¬ (4 : Int32) ≤ nI j from nI_ge (b := 4) hj (by omega)), if_neg (show ¬ ((1 : Int32) = 0) by decide), show nI k * 4 + nI j = nI (4 * k + j) by rw [show (4 : Int32) = nI 4 from rfl, pk_mul, nI_add]; congr 1; omega, rd_n (by omega) (by omega)]
  rfl
theorem has_all {n c : Nat} (hn : n ≤ 5) (hc : c < 100) : f_Hall_has (nI c) (nI n) = some (if c < n then 1 else 0) ∧ f_PM_noCabman (nI c) (nI n) = some (if c < n then 0 else 1) := by
  rcases cabm hn (nI c) with ⟨d, hd, e, e1, e2⟩ | ⟨e1, e2, e3⟩
  · have := nI_inj (by omega) (by omega) e
    rw [if_pos (by omega), if_pos (by omega)]; exact ⟨e1, e2⟩
  · have : ¬ c < n := fun h => e3 c h rfl
    rw [if_neg this, if_neg this]; exact ⟨e1, e2⟩
section UNDER
variable {n f row q n5 : Nat} {lay kinds pats wanted layer cab off rows sC sF sO sK pg : Nat → Int32}
theorem asSeen {qn sn : Int32} (hH : HallR n lay kinds pats wanted layer cab) (hn5 : n5 ≤ 50) (hf : f < 4) (hrow : row < 27) (hq : q ≤ 6)
    (hs : ∀ k, k < q → (rows (4 * k) = sC k ∧ ∃ x, x < n5 ∧ sC k = nI x) ∧ (rows (4 * k + 1) = sF k ∧ ∃ x, x < 4 ∧ sF k = nI x) ∧ (rows (4 * k + 2) = sO k ∧ ∃ x, x < 3 ∧ sO k = nI x) ∧ (rows (4 * k + 3) = sK k ∧ ∃ x, x < 2 ∧ sK k = nI x)) :
    ∀ (d k N : Nat) (sh : Nat → Int32), k + d = q → d < N → (∀ g, g < 4 → g ≠ f → sh g = shN lay off g) → ∃ sh', f_PR_isAsSeen_17 (nI n) lay kinds wanted off (nI q) rows N (nI f) (nI row) (nI k) sh = some (if allU (condU n f row lay kinds wanted off sC sF sO sK) k d = true then 1 else 0, sh') := by
  have hn := hH.1
  intro d
  induction d with
  | zero =>
    intro k N sh h1 h2 hI
    obtain ⟨N', rfl⟩ : ∃ N', N = N' + 1 := ⟨N - 1, by omega⟩
    refine ⟨sh, ?_⟩
    show f_PR_isAsSeen_17_b _ _ _ _ _ _ _ _ _ _ _ _ = _
    unfold f_PR_isAsSeen_17_b
    rw [if_pos (nI_le (by omega) (by omega))]; rfl
  | succ d ih =>
    intro k N sh h1 h2 hI
    obtain ⟨N', rfl⟩ : ∃ N', N = N' + 1 := ⟨N - 1, by omega⟩
    obtain ⟨⟨a1, c, hc, ac⟩, ⟨b1, g, hg, bg⟩, ⟨c1, o, ho, co⟩, ⟨d1, z, hz, dz⟩⟩ := hs k (by omega)
    have hcond : condU n f row lay kinds wanted off sC sF sO sK k = if g = f ∧ c < n then (hailsB (kinds c) (fun g => wanted (4 * c + g)) (upd (shN lay off) f (nI (rowL row o))) == (nI z == 1)) else true := by
      unfold condU; rw [ac, bg, co, dz, nI_clamp (by omega), nI_clamp (by omega), nI_clamp (by omega)]
    have hall : allU (condU n f row lay kinds wanted off sC sF sO sK) k (d + 1) = (condU n f row lay kinds wanted off sC sF sO sK k && allU (condU n f row lay kinds wanted off sC sF sO sK) (k + 1) d) := rfl
    have hz1 : ∀ x : Int32, (if x = 0 then (0 : Int32) else 1) = if x = 0 then 0 else 1 := fun _ => rfl
    show ∃ sh', f_PR_isAsSeen_17_b _ _ _ _ _ _ _ _ _ _ _ _ = _
    unfold f_PR_isAsSeen_17_b f_PR_isAsSeen_119 f_PR_isAsSeen_124
    have q0 := seen_at (j := 0) hq (show k < q by omega) (by omega) rows
    have q1 := seen_at (j := 1) hq (show k < q by omega) (by omega) rows
    have q2 := seen_at (j := 2) hq (show k < q by omega) (by omega) rows
    have q3 := seen_at (j := 3) hq (show k < q by omega) (by omega) rows
    rw [if_neg (nI_ge (show k < q by omega) (by omega)), show f_Seen_at (nI k) 0 (nI q) rows = some (rows (4 * k)) from q0, Option.bind_some, show f_Seen_at (nI k) 1 (nI q) rows = some (rows (4 * k + 1)) from q1, Option.bind_some, a1, b1, ac, bg, nI_1]
    by_cases hgf : g = f
    · rw [if_pos (by rw [hgf]), (has_all hn (show c < 100 by omega)).1, Option.bind_some]
      by_cases hcn : c < n
      · rw [if_pos hcn, if_neg (show ¬ ((1 : Int32) = 0) by decide), show f_Seen_at (nI k) 2 (nI q) rows = some (rows (4 * k + 2)) from q2, Option.bind_some, c1, co, rowC row hrow o ho, Option.bind_some]
        unfold f_Hand_show f_Hand_show_14
        rw [isF_n hf, Option.bind_some, if_neg (show ¬ ((1 : Int32) = 0) by decide), wr_n hf (by omega), Option.bind_some, Option.bind_some, hails_eq hcn hn, Option.bind_some, show f_Seen_at (nI k) 3 (nI q) rows = some (rows (4 * k + 3)) from q3, Option.bind_some, d1, dz]
        have hh : hailsB (kinds c) (fun g => wanted (4 * c + g)) (upd sh f (nI (rowL row o))) = hailsB (kinds c) (fun g => wanted (4 * c + g)) (upd (shN lay off) f (nI (rowL row o))) := by
          apply hails_cong
          intro x hx
          by_cases hxf : x = f
          · subst hxf; rw [up_s, up_s]
          · rw [up_n hxf, up_n hxf]; exact hI x hx hxf
        rw [if_pos ⟨hgf, hcn⟩] at hcond
        rw [hh]
        obtain ⟨sh2, e2⟩ := ih (k + 1) N' (upd sh f (nI (rowL row o))) (by omega) (by omega) (fun x hx hxf => by rw [up_n hxf]; exact hI x hx hxf)
        rw [hall, hcond]
        generalize hailsB (kinds c) (fun g => wanted (4 * c + g)) (upd (shN lay off) f (nI (rowL row o))) = hb at *
        rcases (show z = 0 ∨ z = 1 by omega) with rfl | rfl
        · rw [if_neg (show ¬ nI 0 = 1 by decide)]
          cases hb
          · rw [if_neg (show ¬ (false = true) by decide), if_pos (show (0 : Int32) = 0 from rfl), e2]
            exact ⟨sh2, by rw [show (false == (nI 0 == 1)) = true by decide, Bool.true_and]⟩
          · rw [if_pos (show true = true from rfl), if_neg (show ¬ ((1 : Int32) = 0) by decide)]
            exact ⟨_, by rw [show (true == (nI 0 == 1)) = false by decide, Bool.false_and, if_neg (show ¬ (false = true) by decide)]⟩
        · rw [if_pos (show nI 1 = 1 from rfl)]
          cases hb
          · rw [if_neg (show ¬ (false = true) by decide), if_neg (show ¬ ((0 : Int32) = 1) by decide)]
            exact ⟨_, by rw [show (false == (nI 1 == 1)) = false by decide, Bool.false_and, if_neg (show ¬ (false = true) by decide)]⟩
          · rw [if_pos (show true = true from rfl), if_pos (show (1 : Int32) = 1 from rfl), e2]
            exact ⟨sh2, by rw [show (true == (nI 1 == 1)) = true by decide, Bool.true_and]⟩
      · rw [if_neg hcn, if_pos (show (0 : Int32) = 0 from rfl)]
        obtain ⟨sh2, e2⟩ := ih (k + 1) N' sh (by omega) (by omega) hI
        rw [if_neg (fun h => hcn h.2)] at hcond
        rw [e2, hall, hcond, Bool.true_and]
        exact ⟨sh2, rfl⟩
    · rw [if_neg (fun e => hgf (nI_inj (by omega) (by omega) e))]
      obtain ⟨sh2, e2⟩ := ih (k + 1) N' sh (by omega) (by omega) hI
      rw [if_neg (fun h => hgf h.1)] at hcond
      rw [e2, hall, hcond, Bool.true_and]
      exact ⟨sh2, rfl⟩
theorem underM (hH : HallR n lay kinds pats wanted layer cab) (hob : Ob off) (hp : ∀ f, f < 4 → pg f = off f) (hn5 : n5 ≤ 50) (hf : f < 4) (hrow : row < 27) (hq : q ≤ 6)
    (hs : ∀ k, k < q → (rows (4 * k) = sC k ∧ ∃ x, x < n5 ∧ sC k = nI x) ∧ (rows (4 * k + 1) = sF k ∧ ∃ x, x < 4 ∧ sF k = nI x) ∧ (rows (4 * k + 2) = sO k ∧ ∃ x, x < 3 ∧ sO k = nI x) ∧ (rows (4 * k + 3) = sK k ∧ ∃ x, x < 2 ∧ sK k = nI x))
    (back : Int32 → Int32 → Int32 → Int32 → (Nat → Int32) → Option (Int32 × Int32 × (Nat → Int32))) (um ul : Int32) :
    ∀ (d k N : Nat) (sh : Nat → Int32), k + d = q → d < N → ∃ sh', f_PM_findUnder_24 back (nI n) (nI q) layer cab pg sC sF sO sK N (nI f) (nI row) 1 (nI k) um ul sh = f_PM_findUnder_149 back (nI n) (nI q) layer cab pg sC sF sO sK (nI f) (nI row) (if allU (condU n f row lay kinds wanted off sC sF sO sK) k d = true then 1 else 0) um ul sh' := by
  have hn := hH.1
  intro d
  induction d with
  | zero =>
    intro k N sh h1 h2
    obtain ⟨N', rfl⟩ : ∃ N', N = N' + 1 := ⟨N - 1, by omega⟩
    refine ⟨sh, ?_⟩
    show f_PM_findUnder_24_b _ _ _ _ _ _ _ _ _ _ _ _ _ _ _ _ _ _ = _
    unfold f_PM_findUnder_24_b
    rw [if_pos (nI_le (by omega) (by omega))]; rfl
  | succ d ih =>
    intro k N sh h1 h2
    obtain ⟨N', rfl⟩ : ∃ N', N = N' + 1 := ⟨N - 1, by omega⟩
    obtain ⟨N2, rfl⟩ : ∃ N2, N' = N2 + 1 := ⟨N' - 1, by omega⟩
    obtain ⟨⟨a1, c, hc, ac⟩, ⟨b1, g, hg, bg⟩, ⟨c1, o, ho, co⟩, ⟨d1, z, hz, dz⟩⟩ := hs k (by omega)
    have hcond : condU n f row lay kinds wanted off sC sF sO sK k = if g = f ∧ c < n then (hailsB (kinds c) (fun g => wanted (4 * c + g)) (upd (shN lay off) f (nI (rowL row o))) == (nI z == 1)) else true := by
      unfold condU; rw [ac, bg, co, dz, nI_clamp (by omega), nI_clamp (by omega), nI_clamp (by omega)]
    have hall : allU (condU n f row lay kinds wanted off sC sF sO sK) k (d + 1) = (condU n f row lay kinds wanted off sC sF sO sK k && allU (condU n f row lay kinds wanted off sC sF sO sK) (k + 1) d) := rfl
    have hend : ∀ sh', f_PM_findUnder_24 back (nI n) (nI q) layer cab pg sC sF sO sK (N2 + 1) (nI f) (nI row) 0 (nI (k + 1)) um ul sh' = f_PM_findUnder_149 back (nI n) (nI q) layer cab pg sC sF sO sK (nI f) (nI row) 0 um ul sh' := by
      intro sh'
      show f_PM_findUnder_24_b _ _ _ _ _ _ _ _ _ _ _ _ _ _ _ _ _ _ = _
      unfold f_PM_findUnder_24_b
      rw [if_pos (show (0 : Int32) = 0 from rfl)]
      split <;> rfl
    have h67 : ∀ w0 : Int32, f_PM_findUnder_67 back (f_PM_findUnder_24 back (nI n) (nI q) layer cab pg sC sF sO sK (N2 + 1)) (nI n) (nI q) layer cab pg sC sF sO sK (nI f) (nI row) (nI k) w0 um ul sh = if w0 = 0 then f_PM_findUnder_24 back (nI n) (nI q) layer cab pg sC sF sO sK (N2 + 1) (nI f) (nI row) 1 (nI (k + 1)) um ul (upd (fillN (shN lay off) sh 4) f (nI (rowL row o))) else (f_PM_isCalled (nI c) 15 cab (upd (fillN (shN lay off) sh 4) f (nI (rowL row o)))).bind fun r13 => if nI z = 1 then (if r13 = 1 then f_PM_findUnder_24 back (nI n) (nI q) layer cab pg sC sF sO sK (N2 + 1) (nI f) (nI row) 1 (nI (k + 1)) um ul (upd (fillN (shN lay off) sh 4) f (nI (rowL row o))) else f_PM_findUnder_24 back (nI n) (nI q) layer cab pg sC sF sO sK (N2 + 1) (nI f) (nI row) 0 (nI (k + 1)) um ul (upd (fillN (shN lay off) sh 4) f (nI (rowL row o)))) else (if r13 = 0 then f_PM_findUnder_24 back (nI n) (nI q) layer cab pg sC sF sO sK (N2 + 1) (nI f) (nI row) 1 (nI (k + 1)) um ul (upd (fillN (shN lay off) sh 4) f (nI (rowL row o))) else f_PM_findUnder_24 back (nI n) (nI q) layer cab pg sC sF sO sK (N2 + 1) (nI f) (nI row) 0 (nI (k + 1)) um ul (upd (fillN (shN lay off) sh 4) f (nI (rowL row o)))) := by
      intro w0
      unfold f_PM_findUnder_67 f_PM_findUnder_134 f_PM_findUnder_137 f_PM_findUnder_142
      rw [layShown_eq (fun j hj => (hH.2.1 j hj).1) hob hp, Option.bind_some, rd_n (show k < 6 by omega) (by omega), Option.bind_some, co, (rowP o ho).1, Option.bind_some, if_neg (rowP o ho).2, rowM row hrow o ho, wr_n hf (by omega), Option.bind_some, rd_n (show k < 6 by omega) (by omega), Option.bind_some, rd_n (show k < 6 by omega) (by omega), ac, dz, nI_1]
      rfl
    show ∃ sh', f_PM_findUnder_24_b _ _ _ _ _ _ _ _ _ _ _ _ _ _ _ _ _ _ = _
    unfold f_PM_findUnder_24_b f_PM_findUnder_66
    rw [if_neg (nI_ge (show k < q by omega) (by omega)), if_neg (show ¬ ((1 : Int32) = 0) by decide), rd_n (show k < 6 by omega) (by omega), Option.bind_some, rd_n (show k < 6 by omega) (by omega), Option.bind_some, bg, ac, (has_all hn (show c < 100 by omega)).2, Option.bind_some, h67, h67, if_neg (show ¬ ((1 : Int32) = 0) by decide), if_pos (show (0 : Int32) = 0 from rfl)]
    obtain ⟨sh2, e2⟩ := ih (k + 1) (N2 + 1) (upd (fillN (shN lay off) sh 4) f (nI (rowL row o))) (by omega) (by omega)
    rw [hall, hcond]
    by_cases hgf : g = f
    · rw [if_pos (by rw [hgf])]
      by_cases hcn : c < n
      · rw [if_pos hcn, if_pos (show (0 : Int32) = 0 from rfl), if_pos (show g = f ∧ c < n from ⟨hgf, hcn⟩)]
        have hic : f_PM_isCalled (nI c) 15 cab (upd (fillN (shN lay off) sh 4) f (nI (rowL row o))) = some (if hailsB (kinds c) (fun g => wanted (4 * c + g)) (upd (shN lay off) f (nI (rowL row o))) = true then 1 else 0) := by
          have h := isC_eq (cab := cab) (sh := upd (fillN (shN lay off) sh 4) f (nI (rowL row o))) (c := c) (come := 15) (by omega) (by omega)
          obtain ⟨⟨k1, -⟩, -, k3⟩ := hH.2.2 c hcn
          rw [show (15 : Int32) = nI 15 from rfl, h, k1, calls_cong (sh' := upd (shN lay off) f (nI (rowL row o))) (w' := fun g => wanted (4 * c + g)) (fun x hx => by
            by_cases hxf : x = f
            · subst hxf; rw [up_s, up_s]
            · rw [up_n hxf, up_n hxf, fillN_in hx]) (fun x hx => (k3 x hx).1), ← hails_15 (fun x hx => by
            by_cases hxf : x = f
            · subst hxf; rw [up_s]; exact rowB row hrow o ho
            · rw [up_n hxf]; exact sh_ne hH hob x hx)]
        rw [hic, Option.bind_some]
        generalize hailsB (kinds c) (fun g => wanted (4 * c + g)) (upd (shN lay off) f (nI (rowL row o))) = hb at *
        rcases (show z = 0 ∨ z = 1 by omega) with rfl | rfl
        · rw [if_neg (show ¬ nI 0 = 1 by decide)]
          cases hb
          · rw [if_neg (show ¬ (false = true) by decide), if_pos (show (0 : Int32) = 0 from rfl), e2]
            exact ⟨sh2, by rw [show (false == (nI 0 == 1)) = true by decide, Bool.true_and]⟩
          · rw [if_pos (show true = true from rfl), if_neg (show ¬ ((1 : Int32) = 0) by decide), hend]
            exact ⟨_, by rw [show (true == (nI 0 == 1)) = false by decide, Bool.false_and, if_neg (show ¬ (false = true) by decide)]⟩
        · rw [if_pos (show nI 1 = 1 from rfl)]
          cases hb
          · rw [if_neg (show ¬ (false = true) by decide), if_neg (show ¬ ((0 : Int32) = 1) by decide), hend]
            exact ⟨_, by rw [show (false == (nI 1 == 1)) = false by decide, Bool.false_and, if_neg (show ¬ (false = true) by decide)]⟩
          · rw [if_pos (show true = true from rfl), if_pos (show (1 : Int32) = 1 from rfl), e2]
            exact ⟨sh2, by rw [show (true == (nI 1 == 1)) = true by decide, Bool.true_and]⟩
      · rw [if_neg hcn, if_neg (show ¬ ((1 : Int32) = 0) by decide), if_neg (show ¬ (g = f ∧ c < n) from fun h => hcn h.2), Bool.true_and, e2]
        exact ⟨sh2, rfl⟩
    · rw [if_neg (fun e => hgf (nI_inj (by omega) (by omega) e)), if_neg (show ¬ (g = f ∧ c < n) from fun h => hgf h.1), Bool.true_and, e2]
      exact ⟨sh2, rfl⟩
end UNDER
theorem op_under {K n n5 : Nat} (hn5 : n5 ≤ 50) {lay kinds pats wanted layer cab off w pg shC shM rows sC sF sO sK : Nat → Int32} {nt th qn sn x y : Int32} (hH : HallR n lay kinds pats wanted layer cab) (hS : SceneR K n off w nt pg) (hQ : SeenR n5 qn rows sn sC sF sO sK) (i j : Int32) :
    ∃ r r', f_PR_under i j (nI n) lay kinds wanted off qn rows shC = some r ∧ f_PM_under i j (nI n) sn layer cab pg sC sF sO sK th x y shM = some r' ∧ r.1 = r'.1 := by
  obtain ⟨ho, -, L, -, hp⟩ := hS
  obtain ⟨q, hq, rfl, rfl, hs⟩ := hQ
  unfold f_PR_under f_PM_under f_PM_under_47
  rcases fing i with ⟨f, hf, rfl, e1, e2⟩ | ⟨e1, e2⟩
  · rw [e1, e2, Option.bind_some, Option.bind_some, if_neg (show ¬ ((1 : Int32) = 0) by decide), if_pos (show (0 : Int32) = 0 from rfl)]
    rcases one2 j with ⟨-, e3, e4⟩ | ⟨e3, e4⟩
    · rw [e3, e4, Option.bind_some, Option.bind_some, if_neg (show ¬ ((1 : Int32) = 0) by decide), if_neg (show ¬ ((1 : Int32) = 0) by decide)]
      have key : ∃ r r', f_PR_under_28 (nI n) lay kinds wanted off (nI q) rows 300 (nI f) j 0 (-9) 0 shC = some r ∧ f_PM_findUnder (nI f) (nI n) (nI q) layer cab pg sC sF sO sK x y shM = some r' ∧ r.1 = if j = 0 then r'.1 else r'.2.1 := by
        unfold f_PM_findUnder
        refine lpJ (fun N k (s : Int32 × Int32 × (Nat → Int32)) => f_PR_under_28 (nI n) lay kinds wanted off (nI q) rows N (nI f) j s.1 s.2.1 (nI k) s.2.2)
          (fun N k (t : Int32 × Int32 × (Nat → Int32)) => f_PM_findUnder_13 (nI n) (nI q) layer cab pg sC sF sO sK N (nI f) (nI k) t.1 t.2.1 t.2.2)
          (fun k s t => ∃ cnt, cnt ≤ k ∧ s.1 = nI cnt ∧ t.1 = nI cnt ∧ s.2.1 = t.2.1 ∧ (cnt = 0 ↔ s.2.1 = -9)) 27 (fun r r' => r.1 = if j = 0 then r'.1 else r'.2.1) ?_ ?_ 27 0 (0, -9, shC) (0, -9, shM) 300 300 rfl (by omega) (by omega) ⟨0, by omega, rfl, rfl, rfl, by simp⟩
        · rintro N M k ⟨s0, s1, s2⟩ ⟨t0, t1, t2⟩ hk ⟨cnt, hcnt, h1, h2, h3, h4⟩
          dsimp only at h1 h2 h3 h4 ⊢
          subst h1; subst h2; subst h3
          left
          obtain ⟨sa, ea⟩ := asSeen (qn := 0) (sn := 0) (off := off) hH hn5 hf hk hq hs q 0 300 (fillN (shN lay off) s2 4) (by omega) (by omega) (fun g hg _ => fillN_in hg)
          obtain ⟨sb, eb⟩ := underM hH ho hp.1 hn5 hf hk hq hs (f_PM_findUnder_13 (nI n) (nI q) layer cab pg sC sF sO sK M) (nI cnt) s1 q 0 300 t2 (by omega) (by omega)
          have hC : f_PR_under_28 (nI n) lay kinds wanted off (nI q) rows (N + 1) (nI f) j (nI cnt) s1 (nI k) s2 = if allU (condU n f k lay kinds wanted off sC sF sO sK) 0 q = true then f_PR_under_28 (nI n) lay kinds wanted off (nI q) rows N (nI f) j (nI (cnt + 1)) (if s1 = -9 then nI k else s1) (nI (k + 1)) sa else f_PR_under_28 (nI n) lay kinds wanted off (nI q) rows N (nI f) j (nI cnt) s1 (nI (k + 1)) sa := by
            show f_PR_under_28_b _ _ _ _ _ _ _ _ _ _ _ _ _ _ = _
            unfold f_PR_under_28_b f_PR_under_62 f_PR_under_64 f_PR_isAsSeen
            rw [if_neg (show ¬ (27 : Int32) ≤ nI k from nI_ge (b := 27) hk (by omega)), showAll_eq ho, Option.bind_some, show f_PR_isAsSeen_17 (nI n) lay kinds wanted off (nI q) rows 300 (nI f) (nI k) 0 (fillN (shN lay off) s2 4) = _ from ea, Option.bind_some, nI_1, nI_1]
            dsimp only
            cases allU (condU n f k lay kinds wanted off sC sF sO sK) 0 q
            · rw [if_neg (show ¬ (false = true) by decide), if_pos (show (0 : Int32) = 0 from rfl), if_neg (show ¬ (false = true) by decide)]
            · rw [if_pos (show true = true from rfl), if_neg (show ¬ ((1 : Int32) = 0) by decide), if_pos (show true = true from rfl)]
              by_cases h9 : s1 = -9
              · rw [if_pos h9, if_pos h9]
              · rw [if_neg h9, if_neg h9]
          have hM : f_PM_findUnder_13 (nI n) (nI q) layer cab pg sC sF sO sK (M + 1) (nI f) (nI k) (nI cnt) s1 t2 = if allU (condU n f k lay kinds wanted off sC sF sO sK) 0 q = true then f_PM_findUnder_13 (nI n) (nI q) layer cab pg sC sF sO sK M (nI f) (nI (k + 1)) (nI (cnt + 1)) (if s1 = -9 then nI k else s1) sb else f_PM_findUnder_13 (nI n) (nI q) layer cab pg sC sF sO sK M (nI f) (nI (k + 1)) (nI cnt) s1 sb := by
            show f_PM_findUnder_13_b _ _ _ _ _ _ _ _ _ _ _ _ _ _ _ = _
            unfold f_PM_findUnder_13_b
            rw [if_neg (show ¬ (27 : Int32) ≤ nI k from nI_ge (b := 27) hk (by omega)), show f_PM_findUnder_24 (f_PM_findUnder_13 (nI n) (nI q) layer cab pg sC sF sO sK M) (nI n) (nI q) layer cab pg sC sF sO sK 300 (nI f) (nI k) 1 0 (nI cnt) s1 t2 = _ from eb]
            unfold f_PM_findUnder_149 f_PM_findUnder_165 f_PM_findUnder_169 f_PM_findUnder_186
            have hz : nI cnt + 0 = nI cnt := nI_add cnt 0
            rw [nI_1, nI_1, hz]
            cases allU (condU n f k lay kinds wanted off sC sF sO sK) 0 q
            · rw [if_neg (show ¬ (false = true) by decide), if_pos (show (0 : Int32) = 0 from rfl), if_pos (show (0 : Int32) = 0 from rfl), if_neg (show ¬ (false = true) by decide)]
            · rw [if_pos (show true = true from rfl), if_neg (show ¬ ((1 : Int32) = 0) by decide), if_pos (show true = true from rfl), if_neg (show ¬ ((1 : Int32) = 0) by decide), if_neg (show ¬ ((1 : Int32) = 0) by decide)]
              by_cases h9 : s1 = -9
              · rw [if_pos h9, if_pos (show nI cnt = 0 by rw [h4.mpr h9]; rfl)]
              · rw [if_neg h9, if_neg (nI_ne0 (Nat.pos_of_ne_zero (fun h => h9 (h4.mp h))) (by omega))]
          by_cases hc : allU (condU n f k lay kinds wanted off sC sF sO sK) 0 q = true
          · rw [if_pos hc] at hC hM
            refine ⟨(nI (cnt + 1), if s1 = -9 then nI k else s1, sa), (nI (cnt + 1), if s1 = -9 then nI k else s1, sb), ⟨cnt + 1, by omega, rfl, rfl, rfl, ?_⟩, hC, hM⟩
            dsimp only
            by_cases h9 : s1 = -9
            · rw [if_pos h9]; exact ⟨fun h => by omega, fun h => absurd h (ne9 (by omega))⟩
            · rw [if_neg h9]; exact ⟨fun h => by omega, fun h => absurd h h9⟩
          · rw [if_neg hc] at hC hM
            exact ⟨(nI cnt, s1, sa), (nI cnt, s1, sb), ⟨cnt, by omega, rfl, rfl, rfl, h4⟩, hC, hM⟩
        · rintro N M ⟨s0, s1, s2⟩ ⟨t0, t1, t2⟩ ⟨cnt, hcnt, h1, h2, h3, h4⟩
          dsimp only at h1 h2 h3
          subst h1; subst h2; subst h3
          refine ⟨(if j = 0 then nI cnt else s1, s2), (nI cnt, s1, t2), ?_, ?_, rfl⟩
          · show f_PR_under_28_b _ _ _ _ _ _ _ _ _ _ _ _ _ _ = _
            unfold f_PR_under_28_b f_PR_under_80
            rw [if_pos (show (27 : Int32) ≤ nI 27 by decide)]
            by_cases h0 : j = 0 <;> simp [h0]
          · show f_PM_findUnder_13_b _ _ _ _ _ _ _ _ _ _ _ _ _ _ _ = _
            unfold f_PM_findUnder_13_b
            rw [if_pos (show (27 : Int32) ≤ nI 27 by decide)]
      obtain ⟨r, r', k1, k2, k3⟩ := key
      rw [k1, k2, Option.bind_some]
      by_cases h0 : j = 0
      · rw [if_pos h0] at k3 ⊢; exact ⟨_, _, rfl, rfl, k3⟩
      · rw [if_neg h0] at k3 ⊢; exact ⟨_, _, rfl, rfl, k3⟩
    · rw [e3, e4]; exact ⟨_, _, rfl, rfl, rfl⟩
  · rw [e1, e2]; exact ⟨_, _, rfl, rfl, rfl⟩
