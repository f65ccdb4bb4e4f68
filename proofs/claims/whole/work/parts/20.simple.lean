/-! the calls, one by one: text, hand, acts, slots -/
theorem i_lt0 {x : Int32} : x < 0 ↔ x.toInt < 0 := by rw [Int32.lt_iff_toInt_lt]; rfl
theorem i_le {x : Int32} {k : Nat} (hk : k < 2 ^ 31) {y : Int32} (hy : y = nI k) : x ≤ y ↔ x.toInt ≤ (k : Int) := by
  subst hy; rw [Int32.le_iff_toInt_le, nI_toInt hk]
theorem i_ge {x : Int32} {k : Nat} (hk : k < 2 ^ 31) {y : Int32} (hy : y = nI k) : y ≤ x ↔ (k : Int) ≤ x.toInt := by
  subst hy; rw [Int32.le_iff_toInt_le, nI_toInt hk]
theorem i_lt {x : Int32} {k : Nat} (hk : k < 2 ^ 31) {y : Int32} (hy : y = nI k) : x < y ↔ x.toInt < (k : Int) := by
  subst hy; rw [Int32.lt_iff_toInt_lt, nI_toInt hk]
theorem i_eq {x : Int32} {k : Nat} (hk : k < 2 ^ 31) {y : Int32} (hy : y = nI k) : x = y ↔ x.toInt = (k : Int) := by
  subst hy; rw [← Int32.toInt_inj, nI_toInt hk]
theorem i_nI {x : Int32} (h : 0 ≤ x.toInt) : ∃ j : Nat, j < 2 ^ 31 ∧ x = nI j ∧ x.toInt = (j : Int) := by
  obtain ⟨j, hj, e⟩ := nI_of (x := x) (by rw [i_lt0]; omega)
  exact ⟨j, hj, e, by rw [e, nI_toInt hj]⟩
theorem fing (i : Int32) : (∃ f, f < 4 ∧ i = nI f ∧ f_PR_isFinger i = some 1 ∧ f_PM_noFinger i = some 0) ∨ (f_PR_isFinger i = some 0 ∧ f_PM_noFinger i = some 1) := by
  have hin := in_lit (x := i) (lo := 0) (hi := 3) (by omega) (by omega) (a := 0) (b := 3) rfl rfl
  by_cases h : 0 ≤ i.toInt ∧ i.toInt ≤ 3
  · obtain ⟨j, hj, e, e2⟩ := i_nI h.1
    refine Or.inl ⟨j, by omega, e, by rw [e]; exact isF_n (by omega), ?_⟩
    unfold f_PM_noFinger f_PM_noFinger_17
    rw [hin, if_pos (by omega)]; rfl
  · refine Or.inr ⟨?_, ?_⟩
    · unfold f_PR_isFinger f_PR_isFinger_13 f_PR_isFinger_14
      by_cases h1 : i < 0
      · rw [if_pos h1]; rfl
      · rw [if_neg h1, if_pos ((i_ge (k := 4) (y := 4) (by omega) rfl).mpr (by rw [i_lt0] at h1; omega))]; rfl
    · unfold f_PM_noFinger f_PM_noFinger_17
      rw [hin, if_neg (by omega)]; rfl
theorem cabm {n : Nat} (hn : n ≤ 5) (i : Int32) : (∃ c, c < n ∧ i = nI c ∧ f_Hall_has i (nI n) = some 1 ∧ f_PM_noCabman i (nI n) = some 0) ∨ (f_Hall_has i (nI n) = some 0 ∧ f_PM_noCabman i (nI n) = some 1 ∧ ∀ c, c < n → i ≠ nI c) := by
  have h1 : (nI n - 1).toInt = (n : Int) - 1 := by
    rcases (show n = 0 ∨ n = 1 ∨ n = 2 ∨ n = 3 ∨ n = 4 ∨ n = 5 by omega) with rfl | rfl | rfl | rfl | rfl | rfl <;> decide
  have hin : f_PM_in i.toInt64 0 (nI n - 1).toInt64 = some (if 0 ≤ i.toInt ∧ i.toInt ≤ (n : Int) - 1 then 1 else 0) := by
    rw [pm_in, show (0 : Int64) = (nI 0).toInt64 from rfl]
    simp only [i64_le, h1, nI_toInt (show 0 < 2 ^ 31 by omega)]
    rfl
  by_cases h : 0 ≤ i.toInt ∧ i.toInt ≤ (n : Int) - 1
  · obtain ⟨j, hj, e, e2⟩ := i_nI h.1
    refine Or.inl ⟨j, by omega, e, ?_, ?_⟩
    · unfold f_Hall_has f_Hall_has_17
      rw [e, if_neg (nI_pos (by omega)), if_neg (nI_ge (by omega) (by omega))]; rfl
    · unfold f_PM_noCabman f_PM_noCabman_21
      rw [hin, if_pos h]; rfl
  · refine Or.inr ⟨?_, ?_, fun c hc e => ?_⟩
    · unfold f_Hall_has f_Hall_has_16 f_Hall_has_17
      by_cases h2 : i < 0
      · rw [if_pos h2]; rfl
      · rw [if_neg h2, if_pos ((i_ge (k := n) (by omega) rfl).mpr (by rw [i_lt0] at h2; omega))]; rfl
    · unfold f_PM_noCabman f_PM_noCabman_21
      rw [hin, if_neg h]; rfl
    · rw [e, nI_toInt (by omega)] at h; omega
def TextR (tl : Int32) (tt : Nat → Int32) (ts : Int32) (tx : Nat → Int32) : Prop :=
  ∃ n, n ≤ 48 ∧ tl = nI n ∧ ts = nI n ∧ (∀ j, j < 48 → tx j = tt j) ∧ ∀ j, j < n → ∃ x, x < 256 ∧ tt j = nI x
theorem op_write {tl ts th : Int32} {tt tx : Nat → Int32} (h : TextR tl tt ts tx) (i : Int32) : ∃ r r', f_PR_write i tl tt = some r ∧ f_PM_write i th ts tx = some r' ∧ r.1 = r'.1 ∧ TextR r.2.1 r.2.2 r'.2.2.1 r'.2.2.2 := by
  obtain ⟨n, h1, rfl, rfl, h4, h5⟩ := h
  have hin := in_lit (x := i) (lo := 0) (hi := 255) (by omega) (by omega) (a := 0) (b := 255) rfl rfl
  by_cases h : 0 ≤ i.toInt ∧ i.toInt ≤ 255
  · have c1 : ¬ i < 0 := by rw [i_lt0]; omega
    have c2 : i ≤ 255 := (i_le (k := 255) (y := 255) (by omega) rfl).mpr h.2
    obtain ⟨j, hj, e, e2⟩ := i_nI h.1
    by_cases hn : n = 48
    · subst hn
      refine ⟨(-4, nI 48, tt), (-4, 0, nI 48, tx), ?_, ?_, rfl, 48, h1, rfl, rfl, h4, h5⟩
      · unfold f_PR_write f_PR_write_37 f_Text_append
        rw [if_neg c1, if_pos c2, if_neg (by decide)]; rfl
      · unfold f_PM_write
        rw [hin, if_pos (by omega)]; rfl
    · refine ⟨(nI (n + 1), nI (n + 1), upd tt n i), (nI (n + 1), 0, nI (n + 1), upd tx n i), ?_, ?_, rfl, n + 1, by omega, rfl, rfl, fun k hk => ?_, fun k hk => ?_⟩
      · unfold f_PR_write f_PR_write_37 f_Text_append
        rw [if_neg c1, if_pos c2, if_pos (show nI n < 48 from nI_lt (b := 48) (by omega) (by omega)), wr_n (by omega) (by omega)]
        simp only [Option.bind_some, nI_1]
        rfl
      · unfold f_PM_write
        rw [hin, if_pos (by omega)]
        simp only [Option.bind_some]
        rw [if_neg (by decide), if_neg (show ¬ nI n = 48 from fun e => hn (nI_inj (b := 48) (by omega) (by omega) e)), wr_n (by omega) (by omega)]
        simp only [Option.bind_some, nI_1]
      · dsimp only
        by_cases hkn : k = n
        · subst hkn; rw [up_s, up_s]
        · rw [up_n hkn, up_n hkn]; exact h4 k hk
      · dsimp only
        by_cases hkn : k = n
        · subst hkn; rw [up_s]; exact ⟨j, by omega, e⟩
        · rw [up_n hkn]; exact h5 k (by omega)
  · refine ⟨(-2, nI n, tt), (-2, 0, nI n, tx), ?_, ?_, rfl, n, h1, rfl, rfl, h4, h5⟩
    · unfold f_PR_write f_PR_write_11
      by_cases c1 : i < 0
      · rw [if_pos c1]
      · rw [if_neg c1, if_neg]
        rw [i_le (k := 255) (y := 255) (by omega) rfl]; rw [i_lt0] at c1; omega
    · unfold f_PM_write
      rw [hin, if_neg (by omega)]; rfl
theorem op_wipe {tl ts th : Int32} {tt tx : Nat → Int32} (h : TextR tl tt ts tx) : ∃ r r', f_PR_wipe tl = some r ∧ f_PM_wipe th ts = some r' ∧ r.1 = r'.1 ∧ TextR r.2 tt r'.2.2 tx := by
  obtain ⟨n, h1, rfl, rfl, h4, h5⟩ := h
  exact ⟨_, _, rfl, rfl, rfl, 0, by omega, rfl, rfl, h4, fun j hj => by omega⟩
/-! finger, cabman -/
theorem op_finger {K n : Nat} {lay kinds pats wanted layer cab off w pg : Nat → Int32} {nt th : Int32} (hH : HallR n lay kinds pats wanted layer cab) (hS : SceneR K n off w nt pg) (i j : Int32) : ∃ r r', f_PR_finger i j lay off = some r ∧ f_PM_finger i j layer pg th = some r' ∧ r = r'.1 := by
  obtain ⟨ho, -, L, -, hp⟩ := hS
  rcases fing i with ⟨f, hf, rfl, e1, e2⟩ | ⟨e1, e2⟩
  · obtain ⟨x, hx, hxe⟩ := ho f hf
    unfold f_PR_finger f_PR_finger_18 f_PR_finger_57 f_PR_shown f_PM_finger f_PM_finger_80
    rw [e1, e2]
    have hin := in_lit (x := j) (lo := 0) (hi := 2) (by omega) (by omega) (a := 0) (b := 2) rfl rfl
    simp only [Option.bind_some, show ¬ ((1 : Int32) = 0) by decide, if_false, if_true, hin]
    by_cases h : 0 ≤ j.toInt ∧ j.toInt ≤ 2
    · obtain ⟨y, hy, rfl, hy2⟩ := i_nI h.1
      rw [if_neg (nI_pos hy), if_pos ((i_le (k := 4) (y := 4) (by omega) rfl).mpr (by omega)), if_neg (show ¬ (3 : Int32) ≤ nI y from nI_ge (b := 3) (by omega) (by omega)), if_pos (show ((0 : Nat) : Int) ≤ (nI y).toInt ∧ (nI y).toInt ≤ ((2 : Nat) : Int) from h), layer_n hf (by omega), if_neg (by decide), show 3 * nI f + nI y = nI (3 * f + y) by rw [show (3 : Int32) = nI 3 from rfl, pk_mul, nI_add], rd_n (by omega) (by omega)]
      exact ⟨_, _, rfl, rfl, (hH.2.1 _ (by omega)).1.symm⟩
    · rw [if_neg (show ¬ (((0 : Nat) : Int) ≤ j.toInt ∧ j.toInt ≤ ((2 : Nat) : Int)) from h), if_pos rfl, show (0 : Int32) + nI f = nI f by rw [show (0 : Int32) = nI 0 from rfl, nI_add]; congr 1; omega, rd_n (by omega) (by omega), hp.1 f hf, hxe]
      simp only [Option.bind_some]
      rw [show 3 * nI f + nI x = nI (3 * f + x) by rw [show (3 : Int32) = nI 3 from rfl, pk_mul, nI_add], rd_n (by omega) (by omega), off_n hf, hxe]
      simp only [Option.bind_some]
      rw [layer_n hf hx]
      simp only [Option.bind_some, (hH.2.1 (3 * f + x) (by omega)).1]
      by_cases h3 : j = 3
      · subst h3; exact ⟨_, _, rfl, rfl, rfl⟩
      · by_cases h4 : j = 4
        · subst h4; exact ⟨_, _, rfl, rfl, rfl⟩
        · refine ⟨-2, (-2, 0), ?_, ?_, rfl⟩
          · have e3 : ¬ j.toInt = 3 := fun h => h3 ((i_eq (x := j) (k := 3) (y := 3) (by omega) rfl).mpr h)
            have e4 : ¬ j.toInt = 4 := fun h => h4 ((i_eq (x := j) (k := 4) (y := 4) (by omega) rfl).mpr h)
            by_cases c1 : j < 0
            · rw [if_pos c1]
            · rw [if_neg c1, if_neg]
              rw [i_le (k := 4) (y := 4) (by omega) rfl]; rw [i_lt0] at c1; omega
          · rw [if_neg h3, if_neg h4]
  · refine ⟨-1, (-1, 0), ?_, ?_, rfl⟩
    · unfold f_PR_finger; rw [e1]; rfl
    · unfold f_PM_finger; rw [e2]; rfl
theorem op_cabman {K n : Nat} {lay kinds pats wanted layer cab off w pg : Nat → Int32} {nt th : Int32} (hH : HallR n lay kinds pats wanted layer cab) (hS : SceneR K n off w nt pg) (i j : Int32) : ∃ r r', f_PR_cabman i j (nI n) kinds pats wanted w = some r ∧ f_PM_cabman i j (nI n) cab pg th = some r' ∧ r = r'.1 := by
  obtain ⟨ho, -, L, -, hp⟩ := hS
  have hn := hH.1
  rcases cabm hn i with ⟨c, hc, rfl, e1, e2⟩ | ⟨e1, e2, -⟩
  · obtain ⟨⟨hk, -⟩, ⟨hpt, -⟩, hwt⟩ := hH.2.2 c hc
    unfold f_PR_cabman f_PM_cabman f_PM_cabman_61
    rw [e1, e2]
    have hin := in_lit (x := j) (lo := 0) (hi := 5) (by omega) (by omega) (a := 0) (b := 5) rfl rfl
    simp only [Option.bind_some, show ¬ ((1 : Int32) = 0) by decide, if_false, if_true, hin]
    by_cases h : 0 ≤ j.toInt ∧ j.toInt ≤ 5
    · obtain ⟨y, hy, rfl, hy2⟩ := i_nI h.1
      rw [if_pos (show ((0 : Nat) : Int) ≤ (nI y).toInt ∧ (nI y).toInt ≤ ((5 : Nat) : Int) from h), if_neg (show ¬ ((1 : Int32) = 0) by decide), show 6 * nI c + nI y = nI (6 * c + y) by rw [show (6 : Int32) = nI 6 from rfl, pk_mul, nI_add], rd_n (by omega) (by omega), hk_ hc hn, hp_ hc hn]
      rcases (show y = 0 ∨ y = 1 ∨ y = 2 ∨ y = 3 ∨ y = 4 ∨ y = 5 by omega) with rfl | rfl | rfl | rfl | rfl | rfl
      · exact ⟨_, _, rfl, rfl, hk.symm⟩
      · exact ⟨_, _, rfl, rfl, hpt.symm⟩
      · rw [show nI 2 - 2 = nI 0 from rfl, hw_ hc hn (by omega)]; exact ⟨_, _, rfl, rfl, (hwt 0 (by omega)).1.symm⟩
      · rw [show nI 3 - 2 = nI 1 from rfl, hw_ hc hn (by omega)]; exact ⟨_, _, rfl, rfl, (hwt 1 (by omega)).1.symm⟩
      · rw [show nI 4 - 2 = nI 2 from rfl, hw_ hc hn (by omega)]; exact ⟨_, _, rfl, rfl, (hwt 2 (by omega)).1.symm⟩
      · rw [show nI 5 - 2 = nI 3 from rfl, hw_ hc hn (by omega)]; exact ⟨_, _, rfl, rfl, (hwt 3 (by omega)).1.symm⟩
    · have e : ∀ k : Nat, k < 6 → ¬ j = nI k := fun k hk e => by rw [e, nI_toInt (by omega)] at h; omega
      rw [if_neg (show ¬ (((0 : Nat) : Int) ≤ j.toInt ∧ j.toInt ≤ ((5 : Nat) : Int)) from h), if_pos rfl, if_neg (show ¬ j = 0 from e 0 (by omega)), if_neg (show ¬ j = 1 from e 1 (by omega)), if_neg (show ¬ j = 2 from e 2 (by omega)), if_neg (show ¬ j = 3 from e 3 (by omega)), if_neg (show ¬ j = 4 from e 4 (by omega)), if_neg (show ¬ j = 5 from e 5 (by omega))]
      by_cases h6 : j = 6
      · rw [if_pos h6, if_pos h6, waited_n (by omega), show 10 + nI c = nI (10 + c) by rw [show (10 : Int32) = nI 10 from rfl, nI_add], rd_n (by omega) (by omega)]
        exact ⟨_, _, rfl, rfl, (hp.2.1 c (by omega)).symm⟩
      · rw [if_neg h6, if_neg h6]; exact ⟨_, _, rfl, rfl, rfl⟩
  · refine ⟨-1, (-1, 0), ?_, ?_, rfl⟩
    · unfold f_PR_cabman; rw [e1]; rfl
    · unfold f_PM_cabman; rw [e2]; rfl
/-! seen, the seed -/
def SeenR (n5 : Nat) (qn : Int32) (rows : Nat → Int32) (sn : Int32) (sC sF sO sK : Nat → Int32) : Prop :=
  ∃ q, q ≤ 6 ∧ qn = nI q ∧ sn = nI q ∧ ∀ k, k < q → (rows (4 * k) = sC k ∧ ∃ x, x < n5 ∧ sC k = nI x) ∧ (rows (4 * k + 1) = sF k ∧ ∃ x, x < 4 ∧ sF k = nI x) ∧ (rows (4 * k + 2) = sO k ∧ ∃ x, x < 3 ∧ sO k = nI x) ∧ (rows (4 * k + 3) = sK k ∧ ∃ x, x < 2 ∧ sK k = nI x)
theorem op_unsee {n5 : Nat} {qn sn th : Int32} {rows sC sF sO sK : Nat → Int32} (h : SeenR n5 qn rows sn sC sF sO sK) : ∃ r r', f_PR_unsee qn = some r ∧ f_PM_unsee th sn = some r' ∧ r.1 = r'.1 ∧ SeenR n5 r.2 rows r'.2.2 sC sF sO sK := by
  obtain ⟨q, h1, rfl, rfl, h4⟩ := h
  exact ⟨_, _, rfl, rfl, rfl, 0, by omega, rfl, rfl, fun k hk => by omega⟩
theorem op_see {n n5 : Nat} (hn : n ≤ 5) (h5 : 5 ≤ n5) {qn sn th : Int32} {rows sC sF sO sK : Nat → Int32} (h : SeenR n5 qn rows sn sC sF sO sK) (i j k l : Int32) : ∃ r r', f_PR_see i j k l (nI n) qn rows = some r ∧ f_PM_see i j k l (nI n) th sn sC sF sO sK = some r' ∧ r.1 = r'.1 ∧ SeenR n5 r.2.1 r.2.2 r'.2.2.1 r'.2.2.2.1 r'.2.2.2.2.1 r'.2.2.2.2.2.1 r'.2.2.2.2.2.2 := by
  obtain ⟨q, h1, rfl, rfl, h4⟩ := h
  unfold f_PR_see f_PM_see f_PR_see_18 f_PR_see_40 f_PR_see_70 f_PM_see_20 f_PM_see_45
  rcases cabm hn i with ⟨c, hc, rfl, e1, e2⟩ | ⟨e1, e2, -⟩
  · rw [e1, e2]
    simp only [Option.bind_some, show ¬ ((1 : Int32) = 0) by decide, if_false, if_true]
    rcases fing j with ⟨f, hf, rfl, e3, e4⟩ | ⟨e3, e4⟩
    · rw [e3, e4]
      simp only [Option.bind_some, show ¬ ((1 : Int32) = 0) by decide, if_false, if_true]
      rw [in_lit (x := k) (lo := 0) (hi := 2) (by omega) (by omega) (a := 0) (b := 2) rfl rfl, in_lit (x := l) (lo := 0) (hi := 1) (by omega) (by omega) (a := 0) (b := 1) rfl rfl]
      simp only [Option.bind_some]
      by_cases hk : 0 ≤ k.toInt ∧ k.toInt ≤ 2
      · obtain ⟨o, ho, rfl, ho2⟩ := i_nI hk.1
        rw [if_neg (nI_pos ho), if_neg (show ¬ (2 : Int32) < nI o from nI_nlt (a := 2) (by omega) (by omega)), if_pos (show ((0 : Nat) : Int) ≤ (nI o).toInt ∧ (nI o).toInt ≤ ((2 : Nat) : Int) from hk), if_neg (show ¬ ((1 : Int32) = 0) by decide)]
        by_cases hl : 0 ≤ l.toInt ∧ l.toInt ≤ 1
        · obtain ⟨z, hz, rfl, hz2⟩ := i_nI hl.1
          rw [if_neg (nI_pos hz), if_pos (show nI z ≤ 1 from nI_le (b := 1) (by omega) (by omega)), if_pos (show ((0 : Nat) : Int) ≤ (nI z).toInt ∧ (nI z).toInt ≤ ((1 : Nat) : Int) from hl), if_neg (show ¬ ((1 : Int32) = 0) by decide)]
          unfold f_Seen_add
          by_cases hq : q = 6
          · subst hq
            rw [if_neg (show ¬ nI 6 < 6 by decide), if_pos (show nI 6 = 6 from rfl)]
            exact ⟨_, _, rfl, rfl, rfl, 6, h1, rfl, rfl, h4⟩
          · rw [if_pos (show nI q < 6 from nI_lt (b := 6) (by omega) (by omega)), if_neg (show ¬ nI q = 6 from fun e => hq (nI_inj (b := 6) (by omega) (by omega) e))]
            rw [show nI q * 4 = nI (4 * q) by rw [show (4 : Int32) = nI 4 from rfl, pk_mul]; congr 1; omega, show (0 : Int32) = nI 0 from rfl, show (1 : Int32) = nI 1 from rfl, show (2 : Int32) = nI 2 from rfl, show (3 : Int32) = nI 3 from rfl]
            simp only [nI_add]
            rw [wr_n (by omega) (by omega), wr_n (by omega) (by omega), wr_n (by omega) (by omega), wr_n (by omega) (by omega), wr_n (by omega) (by omega)]
            simp only [Option.bind_some]
            rw [wr_n (by omega) (by omega)]
            simp only [Option.bind_some]
            rw [wr_n (by omega) (by omega)]
            simp only [Option.bind_some]
            rw [wr_n (by omega) (by omega)]
            simp only [Option.bind_some, show ¬ (nI 1 = nI 0) by decide, if_false]
            refine ⟨_, _, rfl, rfl, rfl, q + 1, by omega, rfl, rfl, fun k hk => ?_⟩
            dsimp only
            by_cases hkq : k = q
            · subst hkq
              refine ⟨⟨?_, c, by omega, by rw [up_s]⟩, ⟨?_, f, hf, by rw [up_s]⟩, ⟨?_, o, by omega, by rw [up_s]⟩, ⟨?_, z, by omega, by rw [up_s]⟩⟩
              · rw [up_n (by omega), up_n (by omega), up_n (by omega), Nat.add_zero, up_s, up_s]
              · rw [up_n (by omega), up_n (by omega), up_s, up_s]
              · rw [up_n (by omega), up_s, up_s]
              · rw [up_s, up_s]
            · obtain ⟨a1, a2, a3, a4⟩ := h4 k (by omega)
              refine ⟨?_, ?_, ?_, ?_⟩
              · rw [up_n (by omega), up_n (by omega), up_n (by omega), up_n (by omega), up_n hkq]; exact a1
              · rw [up_n (by omega), up_n (by omega), up_n (by omega), up_n (by omega), up_n hkq]; exact a2
              · rw [up_n (by omega), up_n (by omega), up_n (by omega), up_n (by omega), up_n hkq]; exact a3
              · rw [up_n (by omega), up_n (by omega), up_n (by omega), up_n (by omega), up_n hkq]; exact a4
        · refine ⟨(-2, nI q, rows), (-2, 0, nI q, sC, sF, sO, sK), ?_, ?_, rfl, q, h1, rfl, rfl, h4⟩
          · by_cases c1 : l < 0
            · rw [if_pos c1]
            · rw [if_neg c1, if_neg]
              rw [i_le (k := 1) (y := 1) (by omega) rfl]; rw [i_lt0] at c1; omega
          · rw [if_neg (show ¬ (((0 : Nat) : Int) ≤ l.toInt ∧ l.toInt ≤ ((1 : Nat) : Int)) from hl)]; rfl
      · refine ⟨(-2, nI q, rows), (-2, 0, nI q, sC, sF, sO, sK), ?_, ?_, rfl, q, h1, rfl, rfl, h4⟩
        · by_cases c1 : k < 0
          · rw [if_pos c1]
          · have c2 : (2 : Int32) < k := by
              rw [Int32.lt_iff_toInt_lt, show (2 : Int32).toInt = 2 by decide]; rw [i_lt0] at c1; omega
            rw [if_neg c1, if_pos c2]
        · rw [if_neg (show ¬ (((0 : Nat) : Int) ≤ k.toInt ∧ k.toInt ≤ ((2 : Nat) : Int)) from hk)]; rfl
    · rw [e3, e4]
      exact ⟨_, _, rfl, rfl, rfl, q, h1, rfl, rfl, h4⟩
  · rw [e1, e2]
    exact ⟨_, _, rfl, rfl, rfl, q, h1, rfl, rfl, h4⟩
/-! acts -/
theorem op_night {K n a : Nat} (hK : K < 2 ^ 30) (ha : a ≤ 14) {lay kinds pats wanted layer cab off w pg cells book shC shM : Nat → Int32} {nt th : Int32} (hH : HallR n lay kinds pats wanted layer cab) (hS : SceneR K n off w nt pg) (hA : ActsR K n a cells book) :
    ∃ r r', f_PR_night (nI n) lay kinds pats wanted off 14 (nI a) nt w shC cells = some r ∧ f_PM_night (nI n) layer cab th (nI a) pg book shM = some r' ∧ r.1 = r'.1 ∧ ∃ a', a' ≤ 14 ∧ r.2.1 = nI a' ∧ r'.2.2.1 = nI a' ∧ SceneR (K + 1) n off r.2.2.2.1 r.2.2.1 r'.2.2.2.1 ∧ ActsR K n a' r.2.2.2.2.2 r'.2.2.2.2.1 := by
  obtain ⟨a', cells', book', h1, h2, h3, h4⟩ := remember_R ha hS hA
  obtain ⟨r, e1, e2⟩ := night_R (sh := shM) hK hH hS
  unfold f_PR_night f_PM_night
  rw [h2, h3]
  simp only [Option.bind_some]
  rw [prPass_eq hH.1 hS.1 hS.2.1.2, e1]
  simp only [Option.bind_some]
  rw [waiting_eq, show (4 : Int32) = nI 4 from rfl, rd_n (by omega) (by omega)]
  simp only [Option.bind_some]
  rw [bc5 _ (mask5 _ (by omega))]
  simp only [Option.bind_some]
  refine ⟨_, _, rfl, rfl, ?_, a', h1, rfl, rfl, e2, h4⟩
  obtain ⟨-, -, L, hL, hp⟩ := e2
  dsimp only
  rw [hp.2.2.2.1, rank_pop hL]
theorem Ob_up {off : Nat → Int32} {f x : Nat} (ho : Ob off) (hx : x < 3) : Ob (upd off f (nI x)) := by
  intro g hg
  by_cases h : g = f
  · subst h; rw [up_s]; exact ⟨x, hx, rfl⟩
  · rw [up_n h]; exact ho g hg
theorem scene_off {K n : Nat} {off w pg : Nat → Int32} {nt : Int32} {f x : Nat} (hf : f < 4) (hx : x < 3) (hS : SceneR K n off w nt pg) : SceneR K n (upd off f (nI x)) w nt (upd pg f (nI x)) := by
  obtain ⟨ho, hw, L, hL, p1, p2, p3, p4, p5, p6, p7⟩ := hS
  refine ⟨Ob_up ho hx, hw, L, hL, fun g hg => ?_, fun c hc => by rw [up_n (by omega)]; exact p2 c hc, by rw [up_n (by omega)]; exact p3, by rw [up_n (by omega)]; exact p4, fun i hi => by rw [up_n (by omega)]; exact p5 i hi, p6, p7⟩
  by_cases h : g = f
  · subst h; rw [up_s, up_s]
  · rw [up_n h, up_n h]; exact p1 g hg
theorem canT {f x : Nat} (hf : f < 4) (hx : x < 3) {off : Nat → Int32} (h : off f = nI x) : f_Scene_canTakeOff (nI f) off = some (if x = 2 then 0 else 1) := by
  unfold f_Scene_canTakeOff f_Scene_canTakeOff_21 f_Scene_canTakeOff_22
  rw [isF_n hf]
  simp only [Option.bind_some, show ¬ ((1 : Int32) = 0) by decide, if_false]
  rw [rd_n hf (by omega), h]
  rcases (show x = 0 ∨ x = 1 ∨ x = 2 by omega) with rfl | rfl | rfl <;> rfl
theorem canP {f x : Nat} (hf : f < 4) (hx : x < 3) {off : Nat → Int32} (h : off f = nI x) : f_Scene_canPutOn (nI f) off = some (if x = 0 then 0 else 1) := by
  unfold f_Scene_canPutOn f_Scene_canPutOn_20 f_Scene_canPutOn_21
  rw [isF_n hf]
  simp only [Option.bind_some, show ¬ ((1 : Int32) = 0) by decide, if_false]
  rw [rd_n hf (by omega), h]
  rcases (show x = 0 ∨ x = 1 ∨ x = 2 by omega) with rfl | rfl | rfl <;> rfl
theorem takeO {f x : Nat} (hf : f < 4) (hx : x < 3) {off : Nat → Int32} (h : off f = nI x) : f_Scene_takeOff (nI f) off = some (if x = 2 then (0, off) else (1, upd off f (nI (x + 1)))) := by
  unfold f_Scene_takeOff f_Scene_takeOff_20
  rw [canT hf hx h]
  simp only [Option.bind_some]
  rw [rd_n hf (by omega), h]
  simp only [Option.bind_some]
  rw [wr_n hf (by omega), nI_1]
  by_cases h2 : x = 2 <;> simp [h2]
theorem putO {f x : Nat} (hf : f < 4) (hx : x < 3) {off : Nat → Int32} (h : off f = nI x) : f_Scene_putOn (nI f) off = some (if x = 0 then (0, off) else (1, upd off f (nI (x - 1)))) := by
  unfold f_Scene_putOn f_Scene_putOn_20
  rw [canP hf hx h]
  simp only [Option.bind_some]
  rw [rd_n hf (by omega), h]
  simp only [Option.bind_some]
  rw [wr_n hf (by omega)]
  by_cases h2 : x = 0
  · simp [h2]
  · rw [show nI x - 1 = nI (x - 1) from pk_sub (b := 1) (by omega)]; simp [h2]
theorem shown_n {f x : Nat} (hf : f < 4) (hx : x < 3) {off lay : Nat → Int32} (h : off f = nI x) : f_PR_shown (nI f) lay off = some (lay (3 * f + x)) := by
  unfold f_PR_shown
  rw [off_n hf, h]
  simp only [Option.bind_some]
  rw [layer_n hf hx]
  rfl
theorem op_clean {K n a : Nat} (ha : a ≤ 14) {lay kinds pats wanted layer cab off w pg cells book : Nat → Int32} {nt th : Int32} (hH : HallR n lay kinds pats wanted layer cab) (hS : SceneR K n off w nt pg) (hA : ActsR K n a cells book) (i : Int32) :
    ∃ r r', f_PR_clean i lay nt w 14 (nI a) off cells = some r ∧ f_PM_clean i layer th (nI a) pg book = some r' ∧ r.1 = r'.1 ∧ ∃ a', a' ≤ 14 ∧ r.2.1 = nI a' ∧ r'.2.2.1 = nI a' ∧ SceneR K n r.2.2.1 w nt r'.2.2.2.1 ∧ ActsR K n a' r.2.2.2 r'.2.2.2.2 := by
  unfold f_PR_clean f_PM_clean
  rcases fing i with ⟨f, hf, rfl, e1, e2⟩ | ⟨e1, e2⟩
  · obtain ⟨x, hx, hxe⟩ := hS.1 f hf
    have hpf : pg f = nI x := by obtain ⟨-, -, L, -, hp⟩ := hS; rw [hp.1 f hf, hxe]
    rw [e1, e2, canT hf hx hxe, show (0 : Int32) + nI f = nI f by rw [show (0 : Int32) = nI 0 from rfl, nI_add]; congr 1; omega, rd_n (by omega) (by omega), hpf]
    simp only [Option.bind_some, show ¬ ((1 : Int32) = 0) by decide, if_false, if_true]
    by_cases h2 : x = 2
    · subst h2
      exact ⟨_, _, rfl, rfl, rfl, a, ha, rfl, rfl, hS, hA⟩
    · obtain ⟨a', cells', book', h1, h3, h4, h5⟩ := remember_R ha hS hA
      rw [if_neg h2, if_neg (show ¬ nI x = 2 from fun e => h2 (nI_inj (b := 2) (by omega) (by omega) e)), h3, h4, takeO hf hx hxe, if_neg h2]
      simp only [Option.bind_some, show ¬ ((1 : Int32) = 0) by decide, if_false]
      rw [wr_n (by omega) (by omega), nI_1, shown_n hf (x := x + 1) (by omega) (by rw [up_s])]
      simp only [Option.bind_some]
      rw [rd_n (by omega) (by omega), up_s]
      simp only [Option.bind_some]
      rw [show 3 * nI f + nI (x + 1) = nI (3 * f + (x + 1)) by rw [show (3 : Int32) = nI 3 from rfl, pk_mul, nI_add], rd_n (by omega) (by omega)]
      exact ⟨_, _, rfl, rfl, (hH.2.1 _ (by omega)).1.symm, a', h1, rfl, rfl, scene_off hf (by omega) hS, h5⟩
  · rw [e1, e2]
    exact ⟨_, _, rfl, rfl, rfl, a, ha, rfl, rfl, hS, hA⟩
theorem op_paint {K n a : Nat} (ha : a ≤ 14) {lay kinds pats wanted layer cab off w pg cells book : Nat → Int32} {nt th : Int32} (hH : HallR n lay kinds pats wanted layer cab) (hS : SceneR K n off w nt pg) (hA : ActsR K n a cells book) (i : Int32) :
    ∃ r r', f_PR_paint i lay nt w 14 (nI a) off cells = some r ∧ f_PM_paint i layer th (nI a) pg book = some r' ∧ r.1 = r'.1 ∧ ∃ a', a' ≤ 14 ∧ r.2.1 = nI a' ∧ r'.2.2.1 = nI a' ∧ SceneR K n r.2.2.1 w nt r'.2.2.2.1 ∧ ActsR K n a' r.2.2.2 r'.2.2.2.2 := by
  unfold f_PR_paint f_PM_paint
  rcases fing i with ⟨f, hf, rfl, e1, e2⟩ | ⟨e1, e2⟩
  · obtain ⟨x, hx, hxe⟩ := hS.1 f hf
    have hpf : pg f = nI x := by obtain ⟨-, -, L, -, hp⟩ := hS; rw [hp.1 f hf, hxe]
    rw [e1, e2, canP hf hx hxe, show (0 : Int32) + nI f = nI f by rw [show (0 : Int32) = nI 0 from rfl, nI_add]; congr 1; omega, rd_n (by omega) (by omega), hpf]
    simp only [Option.bind_some, show ¬ ((1 : Int32) = 0) by decide, if_false, if_true]
    by_cases h2 : x = 0
    · subst h2
      exact ⟨_, _, rfl, rfl, rfl, a, ha, rfl, rfl, hS, hA⟩
    · obtain ⟨a', cells', book', h1, h3, h4, h5⟩ := remember_R ha hS hA
      rw [if_neg h2, if_neg (show ¬ nI x = 0 from fun e => h2 (nI_inj (b := 0) (by omega) (by omega) e)), h3, h4, putO hf hx hxe, if_neg h2]
      simp only [Option.bind_some, show ¬ ((1 : Int32) = 0) by decide, if_false]
      rw [wr_n (by omega) (by omega), show nI x - 1 = nI (x - 1) from pk_sub (b := 1) (by omega), shown_n hf (x := x - 1) (by omega) (by rw [up_s])]
      simp only [Option.bind_some]
      rw [rd_n (by omega) (by omega), up_s]
      simp only [Option.bind_some]
      rw [show 3 * nI f + nI (x - 1) = nI (3 * f + (x - 1)) by rw [show (3 : Int32) = nI 3 from rfl, pk_mul, nI_add], rd_n (by omega) (by omega)]
      exact ⟨_, _, rfl, rfl, (hH.2.1 _ (by omega)).1.symm, a', h1, rfl, rfl, scene_off hf (by omega) hS, h5⟩
  · rw [e1, e2]
    exact ⟨_, _, rfl, rfl, rfl, a, ha, rfl, rfl, hS, hA⟩
theorem op_send {K n a : Nat} (ha : a ≤ 14) {off w pg cells book : Nat → Int32} {nt th : Int32} (hS : SceneR K n off w nt pg) (hA : ActsR K n a cells book) :
    ∃ r r', f_PR_send nt off 14 (nI a) w cells = some r ∧ f_PM_send th (nI a) pg book = some r' ∧ r.1 = r'.1 ∧ ∃ a', a' ≤ 14 ∧ r.2.1 = nI a' ∧ r'.2.2.1 = nI a' ∧ SceneR K n off r.2.2.1 nt r'.2.2.2.1 ∧ ActsR K n a' r.2.2.2 r'.2.2.2.2 := by
  have hS0 := hS
  obtain ⟨ho, hw, L, hL, hp⟩ := hS
  unfold f_PR_send f_PM_send
  rw [first_eq hL, show (4 : Int32) = nI 4 from rfl, show (5 : Int32) = nI 5 from rfl, rd_n (by omega) (by omega), hp.2.2.2.1]
  simp only [Option.bind_some]
  cases L with
  | nil => exact ⟨_, _, rfl, rfl, rfl, a, ha, rfl, rfl, hS0, hA⟩
  | cons b t =>
    have hb := (hL.2.1 b).mp List.mem_cons_self
    obtain ⟨a', cells', book', h1, h3, h4, h5⟩ := remember_R ha hS0 hA
    obtain ⟨pg', e1, e2⟩ := send_R ho hw hL hp
    have hp5 := hp.2.2.2.2.1 0 (by simp)
    rw [show hdI (b :: t) = nI b from rfl, if_neg (show ¬ nI b = -9 from ne9 (by omega)), if_neg (show ¬ nI (b :: t).length = 0 from nI_ne0 (by simp) (by have := rank_len hL; omega)), h3, h4]
    simp only [Option.bind_some]
    rw [letGo_n hb.1 hb.2, rd_n (by omega) (by omega), show pg 5 = nI b from hp5]
    simp only [Option.bind_some]
    rw [e1]
    exact ⟨_, _, rfl, rfl, rfl, a', h1, rfl, rfl, e2, h5⟩
theorem op_undo {K n a : Nat} (ha : a ≤ 14) {off w pg cells book : Nat → Int32} {nt th : Int32} (hS : SceneR K n off w nt pg) (hA : ActsR K n a cells book) :
    ∃ r r', f_PR_undo 14 cells (nI a) nt off w = some r ∧ f_PM_undo book th (nI a) pg = some r' ∧ r.1 = r'.1 ∧ ∃ a', a' ≤ 14 ∧ r.2.1 = nI a' ∧ r'.2.2.1 = nI a' ∧ SceneR K n r.2.2.2.1 r.2.2.2.2 r.2.2.1 r'.2.2.2 ∧ ActsR K n a' cells book := by
  unfold f_PR_undo f_PM_undo
  by_cases h0 : a = 0
  · subst h0
    exact ⟨_, _, rfl, rfl, rfl, 0, by omega, rfl, rfl, hS, hA⟩
  · rw [if_neg (show ¬ nI a = 0 from nI_ne0 (by omega) (by omega)), if_neg (show ¬ nI a = 0 from nI_ne0 (by omega) (by omega)), show nI a - 1 = nI (a - 1) from pk_sub (b := 1) (by omega)]
    obtain ⟨r, e1, e2, e3, e4⟩ := take_eq (i := a - 1) (N := 140) (P := 14) (by omega) rfl (by omega) (nt := nt) (off := off) (w := w) (cells := cells)
    rw [show (14 : Int32) = nI 14 from rfl, e1, undo27 (by omega)]
    refine ⟨_, _, rfl, rfl, rfl, a - 1, by omega, rfl, rfl, ?_, fun i hi => hA i (by omega)⟩
    exact SceneR_cong (hA (a - 1) (by omega)) e3 e4 e2 (fun j hj => putN_z (src := fun j => book (16 * (a - 1) + j)) hj)
