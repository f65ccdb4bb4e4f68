/-! what is put away: acts and slots -/
theorem rank_cong {w w' : Nat → Int32} {L : List Nat} (h : RankOK w L) (e : ∀ c, c < 5 → w c = w' c) : RankOK w' L := by
  refine ⟨h.1, fun c => ?_, ?_⟩
  · rw [h.2.1 c]
    constructor
    · rintro ⟨h1, h2⟩; exact ⟨h1, by rw [← e c h1]; exact h2⟩
    · rintro ⟨h1, h2⟩; exact ⟨h1, by rw [e c h1]; exact h2⟩
  · refine List.Pairwise.imp_of_mem ?_ h.2.2
    intro a b ha hb hab
    rw [← e a ((h.2.1 a).mp ha).1, ← e b ((h.2.1 b).mp hb).1]
    exact hab
theorem SceneR_cong {K n : Nat} {off off' w w' pg pg' : Nat → Int32} {nt nt' : Int32} (h : SceneR K n off w nt pg) (h1 : ∀ f, f < 4 → off' f = off f) (h2 : ∀ c, c < 5 → w' c = w c) (h3 : nt' = nt) (h4 : ∀ j, j < 16 → pg' j = pg j) : SceneR K n off' w' nt' pg' := by
  obtain ⟨ho, hw, L, hL, p1, p2, p3, p4, p5, p6, p7⟩ := h
  refine ⟨fun f hf => by rw [h1 f hf]; exact ho f hf, ⟨fun c hc => by rw [h2 c hc]; exact hw.1 c hc, fun c a b => by rw [h2 c b]; exact hw.2 c a b⟩, L, rank_cong hL (fun c hc => (h2 c hc).symm), fun f hf => by rw [h4 f (by omega), h1 f hf]; exact p1 f hf, fun c hc => by rw [h4 _ (by omega), h2 c hc]; exact p2 c hc, by rw [h4 _ (by omega), h3]; exact p3, by rw [h4 _ (by omega)]; exact p4, fun i hi => by rw [h4 _ (by omega)]; exact p5 i hi, p6, p7⟩
theorem Wb_mono {K K' n : Nat} {w : Nat → Int32} (hk : K ≤ K') (h : Wb K n w) : Wb K' n w :=
  ⟨fun c hc => (h.1 c hc).imp id (fun ⟨x, h1, h2⟩ => ⟨x, Nat.le_trans h1 hk, h2⟩), h.2⟩
theorem SceneR_mono {K K' n : Nat} {off w pg : Nat → Int32} {nt : Int32} (hk : K ≤ K') (h : SceneR K n off w nt pg) : SceneR K' n off w nt pg := ⟨h.1, Wb_mono hk h.2.1, h.2.2⟩
theorem cpy_n {f g : Nat → Int32} {n0 n1 sp dp k : Nat} (h0 : sp + k ≤ n0) (h1 : dp + k ≤ n1) (hb : n0 < 2 ^ 31) (hb1 : n1 < 2 ^ 31) : cpy f g n0 n1 (nI sp) (nI dp) (nI k) = some (va_cpy f g sp dp k) := by
  unfold cpy
  rw [nI_clamp (by omega), nI_clamp (by omega), nI_clamp (by omega), if_pos ⟨⟨nI_pos (by omega), nI_pos (by omega), nI_pos (by omega)⟩, h0, h1⟩]
theorem put_eq {i N P : Nat} (hi : i < P) (hN : N = 10 * P) (hP : P < 1000) {nt : Int32} {off w cells : Nat → Int32} : ∃ cells', f_Shelf_put (nI i) N (nI P) nt off w cells = some cells' ∧ (∀ f, f < 4 → cells' (10 * i + f) = off f) ∧ (∀ c, c < 5 → cells' (10 * i + 4 + c) = w c) ∧ cells' (10 * i + 9) = nt ∧ ∀ j, j < 10 * i ∨ 10 * i + 10 ≤ j → cells' j = cells j := by
  refine ⟨upd (va_cpy w (va_cpy off cells 0 (10 * i) 4) 0 (10 * i + 4) 5) (10 * i + 9) nt, ?_, fun f hf => ?_, fun c hc => ?_, up_s, fun j hj => ?_⟩
  · unfold f_Shelf_put
    rw [if_neg (nI_pos (by omega)), if_pos (nI_lt hi (by omega)), show nI i * 10 = nI (10 * i) by rw [show (10 : Int32) = nI 10 from rfl, pk_mul]; congr 1; omega, show (4 : Int32) = nI 4 from rfl, show (5 : Int32) = nI 5 from rfl, show (0 : Int32) = nI 0 from rfl, nI_add, nI_add, cpy_n (by omega) (by omega) (by omega) (by omega)]
    simp only [Option.bind_some]
    rw [cpy_n (by omega) (by omega) (by omega) (by omega)]
    simp only [Option.bind_some]
    rw [wr_n (by omega) (by omega)]
    rfl
  · rw [up_n (by omega), pk_cpy_out (by omega), pk_cpy_in (by omega) (by omega)]; congr 1; omega
  · rw [up_n (by omega), pk_cpy_in (by omega) (by omega)]; congr 1; omega
  · rw [up_n (by omega), pk_cpy_out (by omega), pk_cpy_out (by omega)]
theorem take_eq {i N P : Nat} (hi : i < P) (hN : N = 10 * P) (hP : P < 1000) {nt : Int32} {off w cells : Nat → Int32} : ∃ r, f_Shelf_take (nI i) N (nI P) cells nt off w = some r ∧ r.1 = cells (10 * i + 9) ∧ (∀ f, f < 4 → r.2.1 f = cells (10 * i + f)) ∧ (∀ c, c < 5 → r.2.2 c = cells (10 * i + 4 + c)) := by
  refine ⟨(cells (10 * i + 9), va_cpy cells off (10 * i) 0 4, va_cpy cells w (10 * i + 4) 0 5), ?_, rfl, fun f hf => ?_, fun c hc => ?_⟩
  · unfold f_Shelf_take
    rw [if_neg (nI_pos (by omega)), if_pos (nI_lt hi (by omega)), show nI i * 10 = nI (10 * i) by rw [show (10 : Int32) = nI 10 from rfl, pk_mul]; congr 1; omega, show (4 : Int32) = nI 4 from rfl, show (5 : Int32) = nI 5 from rfl, show (0 : Int32) = nI 0 from rfl, nI_add, nI_add, cpy_n (by omega) (by omega) (by omega) (by omega)]
    simp only [Option.bind_some]
    rw [cpy_n (by omega) (by omega) (by omega) (by omega)]
    simp only [Option.bind_some]
    rw [rd_n (by omega) (by omega)]
    rfl
  · dsimp only; rw [pk_cpy_in (by omega) (by omega)]; congr 1
  · dsimp only; rw [pk_cpy_in (by omega) (by omega)]; congr 1
/-! the model's rows that are copied -/
def putN (d e : Nat) (src s0 : Nat → Int32) : Nat → Int32 := fun j => if d ≤ j ∧ j < d + e then src (j - d) else s0 j
theorem putN_0 {d : Nat} {src s0 : Nat → Int32} : putN d 0 src s0 = s0 := by
  funext j; unfold putN; rw [if_neg (by omega)]
theorem putN_s {d k : Nat} {src s0 : Nat → Int32} {x : Int32} (h : x = src k) : upd (putN d k src s0) (d + k) x = putN d (k + 1) src s0 := by
  funext j
  by_cases hj : j = d + k
  · subst hj; rw [up_s]; unfold putN; rw [if_pos (by omega), h]; congr 1; omega
  · rw [up_n hj]; unfold putN
    by_cases h1 : d ≤ j ∧ j < d + k
    · rw [if_pos h1, if_pos (by omega)]
    · rw [if_neg h1, if_neg (by omega)]
theorem putN_in {d e j : Nat} {src s0 : Nat → Int32} (h : j < e) : putN d e src s0 (d + j) = src j := by
  unfold putN; rw [if_pos (by omega)]; congr 1; omega
theorem putN_out {d e j : Nat} {src s0 : Nat → Int32} (h : j < d ∨ d + e ≤ j) : putN d e src s0 j = s0 j := by
  unfold putN; rw [if_neg (by omega)]
theorem note51 {a : Nat} (ha : a < 14) {pg book : Nat → Int32} : f_PM_note_51 pg 300 0 (nI a) book = some (nI (a + 1), putN (16 * a) 16 pg book) := by
  have h0 : f_PM_note_51 pg 300 0 (nI a) book = f_PM_note_51 pg 300 (nI 0) (nI a) (putN (16 * a) 0 pg book) := by rw [putN_0]; rfl
  rw [h0]
  refine lpS (fun N k => f_PM_note_51 pg N (nI k) (nI a) (putN (16 * a) k pg book)) 16 _ ?_ ?_ 300 0 (by omega) (by omega)
  · intro N k hk
    show f_PM_note_51_b _ _ _ _ _ = _
    unfold f_PM_note_51_b
    rw [if_neg (show ¬ (16 : Int32) ≤ nI k from nI_ge (b := 16) hk (by omega)), rd_n hk (by omega), show 16 * nI a + nI k = nI (16 * a + k) by rw [show (16 : Int32) = nI 16 from rfl, pk_mul, nI_add]]
    simp only [Option.bind_some]
    rw [wr_n (by omega) (by omega), putN_s rfl]
    simp only [Option.bind_some, nI_1]
  · intro N
    show f_PM_note_51_b _ _ _ _ _ = _
    unfold f_PM_note_51_b
    rw [if_pos (show (16 : Int32) ≤ nI 16 by decide), nI_1]
theorem note11 {pg book : Nat → Int32} : f_PM_note_11 pg 300 0 (nI 14) book = some (nI 14, putN 208 16 pg (putN 0 208 (fun j => book (j + 16)) book)) := by
  have h0 : f_PM_note_11 pg 300 0 (nI 14) book = f_PM_note_11 pg 300 (nI 0) (nI 14) (putN 0 0 (fun j => book (j + 16)) book) := by rw [putN_0]; rfl
  rw [h0]
  refine lpS (fun N k => f_PM_note_11 pg N (nI k) (nI 14) (putN 0 k (fun j => book (j + 16)) book)) 208 _ ?_ ?_ 300 0 (by omega) (by omega)
  · intro N k hk
    show f_PM_note_11_b _ _ _ _ _ = _
    unfold f_PM_note_11_b
    rw [if_neg (show ¬ (208 : Int32) ≤ nI k from nI_ge (b := 208) hk (by omega)), show nI k + 16 = nI (k + 16) by rw [show (16 : Int32) = nI 16 from rfl, nI_add], rd_n (by omega) (by omega), putN_out (by omega)]
    simp only [Option.bind_some]
    rw [wr_n (by omega) (by omega)]
    have h1 := putN_s (d := 0) (k := k) (src := fun j => book (j + 16)) (s0 := book) (x := book (k + 16)) rfl
    rw [Nat.zero_add] at h1
    rw [h1]
    simp only [Option.bind_some, nI_1]
  · intro N
    show f_PM_note_11_b _ _ _ _ _ = _
    unfold f_PM_note_11_b f_PM_note_49
    rw [if_pos (show (208 : Int32) ≤ nI 208 by decide), show nI 14 - 1 = nI 13 from rfl]
    exact note51 (by omega)
/-- the acts, on both sides -/
def ActsR (K n a : Nat) (cells book : Nat → Int32) : Prop := ∀ i, i < a → SceneR K n (fun f => cells (10 * i + f)) (fun c => cells (10 * i + 4 + c)) (cells (10 * i + 9)) (fun j => book (16 * i + j))
theorem ActsR_mono {K K' n a : Nat} {cells book : Nat → Int32} (hk : K ≤ K') (h : ActsR K n a cells book) : ActsR K' n a cells book := fun i hi => SceneR_mono hk (h i hi)
theorem remember_R {K n a : Nat} (ha : a ≤ 14) {off w pg cells book : Nat → Int32} {nt : Int32} (hS : SceneR K n off w nt pg) (hA : ActsR K n a cells book) : ∃ a' cells' book', a' ≤ 14 ∧ f_PR_remember nt off w 14 (nI a) cells = some (nI a', cells') ∧ f_PM_note pg (nI a) book = some (nI a', book') ∧ ActsR K n a' cells' book' := by
  by_cases h14 : a = 14
  · subst h14
    obtain ⟨cells', e1, e2, e3, e4, e5⟩ := put_eq (i := 13) (N := 140) (P := 14) (by omega) rfl (by omega) (nt := nt) (off := off) (w := w) (cells := va_cpy cells cells 10 0 130)
    refine ⟨14, cells', putN 208 16 pg (putN 0 208 (fun j => book (j + 16)) book), by omega, ?_, ?_, fun i hi => ?_⟩
    · unfold f_PR_remember f_PR_remember_26 f_Shelf_forgetFirst f_Shelf_forgetFirst_30
      rw [if_pos (show nI 14 = 14 from rfl), if_neg (by decide), show ((14 : Int32) - 1) * 10 = nI 130 from rfl, show (10 : Int32) = nI 10 from rfl, show (0 : Int32) = nI 0 from rfl, cpy_n (by omega) (by omega) (by omega) (by omega)]
      simp only [Option.bind_some]
      rw [show nI 14 - 1 = nI 13 from rfl, show (14 : Int32) = nI 14 from rfl, e1]
      rfl
    · unfold f_PM_note
      rw [if_pos (show nI 14 = 14 from rfl)]
      exact note11
    · by_cases h13 : i = 13
      · subst h13
        refine SceneR_cong hS (fun f hf => e2 f hf) (fun c hc => e3 c hc) e4 (fun j hj => ?_)
        exact putN_in hj
      · refine SceneR_cong (hA (i + 1) (by omega)) (fun f hf => ?_) (fun c hc => ?_) ?_ (fun j hj => ?_)
        · rw [e5 _ (by omega), pk_cpy_in (by omega) (by omega)]; congr 1; omega
        · rw [e5 _ (by omega), pk_cpy_in (by omega) (by omega)]; congr 1; omega
        · rw [e5 _ (by omega), pk_cpy_in (by omega) (by omega)]; congr 1; omega
        · rw [putN_out (by omega)]
          have := putN_in (d := 0) (e := 208) (j := 16 * i + j) (src := fun j => book (j + 16)) (s0 := book) (by omega)
          rw [Nat.zero_add] at this
          rw [this]; congr 1; omega
  · obtain ⟨cells', e1, e2, e3, e4, e5⟩ := put_eq (i := a) (N := 140) (P := 14) (by omega) rfl (by omega) (nt := nt) (off := off) (w := w) (cells := cells)
    refine ⟨a + 1, cells', putN (16 * a) 16 pg book, by omega, ?_, ?_, fun i hi => ?_⟩
    · unfold f_PR_remember f_PR_remember_26
      rw [if_neg (show ¬ nI a = 14 from fun e => h14 (nI_inj (b := 14) (by omega) (by omega) e)), show (14 : Int32) = nI 14 from rfl, e1]
      simp only [Option.bind_some, nI_1]
    · unfold f_PM_note f_PM_note_49
      rw [if_neg (show ¬ nI a = 14 from fun e => h14 (nI_inj (b := 14) (by omega) (by omega) e))]
      exact note51 (by omega)
    · by_cases hia : i = a
      · subst hia
        exact SceneR_cong hS (fun f hf => e2 f hf) (fun c hc => e3 c hc) e4 (fun j hj => putN_in hj)
      · refine SceneR_cong (hA i (by omega)) (fun f hf => ?_) (fun c hc => ?_) ?_ (fun j hj => ?_)
        · exact e5 _ (by omega)
        · exact e5 _ (by omega)
        · exact e5 _ (by omega)
        · exact putN_out (by omega)
theorem undo27 {a : Nat} (ha : a < 14) {pg book : Nat → Int32} {t : Int32} : f_PM_undo_27 book 300 0 t (nI a) pg = some (nI a, t, nI a, putN 0 16 (fun j => book (16 * a + j)) pg) := by
  have h0 : f_PM_undo_27 book 300 0 t (nI a) pg = f_PM_undo_27 book 300 (nI 0) t (nI a) (putN 0 0 (fun j => book (16 * a + j)) pg) := by rw [putN_0]; rfl
  rw [h0]
  refine lpS (fun N k => f_PM_undo_27 book N (nI k) t (nI a) (putN 0 k (fun j => book (16 * a + j)) pg)) 16 _ ?_ ?_ 300 0 (by omega) (by omega)
  · intro N k hk
    show f_PM_undo_27_b _ _ _ _ _ _ = _
    unfold f_PM_undo_27_b
    rw [if_neg (show ¬ (16 : Int32) ≤ nI k from nI_ge (b := 16) hk (by omega)), show 16 * nI a + nI k = nI (16 * a + k) by rw [show (16 : Int32) = nI 16 from rfl, pk_mul, nI_add], rd_n (by omega) (by omega)]
    simp only [Option.bind_some]
    rw [wr_n (by omega) (by omega)]
    have h1 := putN_s (d := 0) (k := k) (src := fun j => book (16 * a + j)) (s0 := pg) (x := book (16 * a + k)) rfl
    rw [Nat.zero_add] at h1
    rw [h1]
    simp only [Option.bind_some, nI_1]
  · intro N
    show f_PM_undo_27_b _ _ _ _ _ _ = _
    unfold f_PM_undo_27_b
    rw [if_pos (show (16 : Int32) ≤ nI 16 by decide)]
theorem begin_eq {pg tr : Nat → Int32} : f_PM_begin pg tr = some (putN 0 16 pg tr) := by
  have h0 : f_PM_begin pg tr = f_PM_begin_2 pg 300 (nI 0) (putN 0 0 pg tr) := by rw [putN_0]; rfl
  rw [h0]
  refine lpS (fun N k => f_PM_begin_2 pg N (nI k) (putN 0 k pg tr)) 16 _ ?_ ?_ 300 0 (by omega) (by omega)
  · intro N k hk
    show f_PM_begin_2_b _ _ _ _ = _
    unfold f_PM_begin_2_b
    rw [if_neg (show ¬ (16 : Int32) ≤ nI k from nI_ge (b := 16) hk (by omega)), rd_n hk (by omega)]
    simp only [Option.bind_some]
    rw [wr_n hk (by omega)]
    have h1 := putN_s (d := 0) (k := k) (src := pg) (s0 := tr) (x := pg k) rfl
    rw [Nat.zero_add] at h1
    rw [h1]
    simp only [Option.bind_some, nI_1]
  · intro N
    show f_PM_begin_2_b _ _ _ _ = _
    unfold f_PM_begin_2_b
    rw [if_pos (show (16 : Int32) ≤ nI 16 by decide)]
theorem putN_z {e j : Nat} {src s0 : Nat → Int32} (h : j < e) : putN 0 e src s0 j = src j := by
  have := putN_in (d := 0) (src := src) (s0 := s0) h
  rwa [Nat.zero_add] at this
theorem copy_eq {nt nt2 : Int32} {off w off2 w2 : Nat → Int32} : ∃ r, f_Scene_copy nt off w nt2 off2 w2 = some r ∧ r.1 = nt ∧ (∀ f, f < 4 → r.2.1 f = off f) ∧ ∀ c, c < 5 → r.2.2 c = w c := by
  refine ⟨(nt, va_cpy off off2 0 0 4, va_cpy w w2 0 0 5), ?_, rfl, fun f hf => ?_, fun c hc => ?_⟩
  · unfold f_Scene_copy
    rw [show (0 : Int32) = nI 0 from rfl, show (4 : Int32) = nI 4 from rfl, show (5 : Int32) = nI 5 from rfl, cpy_n (by omega) (by omega) (by omega) (by omega)]
    simp only [Option.bind_some]
    rw [cpy_n (by omega) (by omega) (by omega) (by omega)]
    rfl
  · dsimp only; rw [pk_cpy_in (by omega) (by omega)]; congr 1; omega
  · dsimp only; rw [pk_cpy_in (by omega) (by omega)]; congr 1; omega
