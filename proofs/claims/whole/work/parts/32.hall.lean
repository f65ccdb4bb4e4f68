/-! the order `hall` -/
theorem fit_lay {j x : Nat} (h1 : 1 ≤ j) (h2 : j < 13) (h : fitN j x = true) : 48 ≤ x ∧ x ≤ 50 := by
  unfold fitN at h
  rw [if_neg (by omega), if_pos h2] at h
  simpa using h
theorem fit_num {c k x : Nat} (hk : k < 6) (h : fitN (14 + 7 * c + k) x = true) : 48 ≤ x ∧ x ≤ (if k = 1 then 57 else 51) := by
  unfold fitN at h
  rw [if_neg (by omega), if_neg (by omega), if_neg (by omega)] at h
  by_cases hk1 : k = 1
  · rw [if_pos (by omega)] at h
    rw [if_pos hk1]
    have : 49 ≤ x ∧ x ≤ 57 := by simpa using h
    omega
  · rw [if_neg (by omega)] at h
    rw [if_neg hk1]
    simpa using h
section HALL
variable {n : Nat} {t : Nat → Int32} {x : Nat → Nat}
def Xv (x : Nat → Nat) (j : Nat) : Int32 := nI (x j - 48)
theorem figure_eq {j : Nat} (hn : n ≤ 48) (hx : ∀ j, j < n → x j < 256 ∧ t j = nI (x j)) (hj : j < n) (h48 : 48 ≤ x j) : f_Text_figure (nI j) (nI n) t = some (Xv x j) := by
  obtain ⟨hx1, hx2⟩ := hx j hj
  unfold f_Text_figure f_Text_figure_25
  rw [if_neg (show ¬ nI j < 0 from nI_nlt (b := 0) (by omega) (by omega)), if_pos (nI_lt hj (by omega)), rd_n (by omega) (by omega), Option.bind_some, hx2, show nI (x j) - 48 = nI (x j - 48) from pk_sub (b := 48) (by omega)]
  rfl
def Wv (x : Nat → Nat) (j : Nat) : Int32 := Xv x (16 + 7 * (j / 4) + j % 4)
theorem read95_eq {c : Nat} (hn : n ≤ 48) (hx : ∀ j, j < n → x j < 256 ∧ t j = nI (x j)) (hc : c < 5) (hcn : 20 + 7 * c ≤ n) (h48 : ∀ f, f < 4 → 48 ≤ x (16 + 7 * c + f)) {β : Type} (back : Int32 → Int32 → (Nat → Int32) → (Nat → Int32) → (Nat → Int32) → (Nat → Int32) → Option (Int32 × (Nat → Int32) × (Nat → Int32) × (Nat → Int32) × (Nat → Int32))) (cnt : Int32) (lay kin pat wanted : Nat → Int32) : f_Hall_read_95 back (nI n) t 300 (nI c) (nI (13 + 7 * c)) (nI 0) cnt lay kin pat (fillN (Wv x) wanted (4 * c)) = back (nI (c + 1)) cnt lay kin pat (fillN (Wv x) wanted (4 * (c + 1))) := by
  refine lpS (fun N k => f_Hall_read_95 back (nI n) t N (nI c) (nI (13 + 7 * c)) (nI k) cnt lay kin pat (fillN (Wv x) wanted (4 * c + k))) 4 _ ?_ ?_ 300 0 (by omega) (by omega)
  · intro N k hk
    show f_Hall_read_95_b _ _ _ _ _ _ _ _ _ _ _ _ = _
    unfold f_Hall_read_95_b
    rw [if_neg (show ¬ (4 : Int32) ≤ nI k from nI_ge (b := 4) hk (by omega)), show nI (13 + 7 * c) + 3 + nI k = nI (16 + 7 * c + k) by rw [show (3 : Int32) = nI 3 from rfl, nI_add, nI_add]; congr 1; omega, figure_eq hn hx (by omega) (h48 k hk), Option.bind_some, show nI c * 4 + nI k = nI (4 * c + k) by rw [show (4 : Int32) = nI 4 from rfl, pk_mul, nI_add, Nat.mul_comm], wr_n (by omega) (by omega), Option.bind_some, nI_1, fillN_s (by unfold Wv; rw [show (4 * c + k) / 4 = c by omega, show (4 * c + k) % 4 = k by omega])]
    rfl
  · intro N
    show f_Hall_read_95_b _ _ _ _ _ _ _ _ _ _ _ _ = _
    unfold f_Hall_read_95_b
    rw [if_pos (show (4 : Int32) ≤ nI 4 by decide), nI_1]
    rfl
theorem mnc5 {c : Nat} (h : c ≤ 5) : mnI (nI c) 5 = nI c := by
  have : c = 0 ∨ c = 1 ∨ c = 2 ∨ c = 3 ∨ c = 4 ∨ c = 5 := by omega
  rcases this with e | e | e | e | e | e <;> subst e <;> decide
theorem hallread_eq (hn : n ≤ 48) (hx : ∀ j, j < n → x j < 256 ∧ t j = nI (x j)) {rcn : Int32} {rl rc : Nat → Int32} (hR : ReadOK n x rcn rl rc) (cn : Int32) (lay kin pat wanted : Nat → Int32) : f_Hall_read (nI n) t cn lay kin pat wanted = some (nI ((n - 13) / 7), fillN (fun j => Xv x (1 + j)) lay 12, fillN (fun c => Xv x (14 + 7 * c)) kin ((n - 13) / 7), fillN (fun c => Xv x (15 + 7 * c)) pat ((n - 13) / 7), fillN (Wv x) wanted (4 * ((n - 13) / 7))) := by
  obtain ⟨h13, hm, -, hl, hc⟩ := hR
  obtain ⟨cnt, hcnt⟩ : ∃ cnt, (n - 13) / 7 = cnt := ⟨_, rfl⟩
  rw [hcnt] at hc ⊢
  have hcn : 13 + 7 * cnt = n := by omega
  have hlast : ∀ L : Nat → Int32, f_Hall_read_50 (nI n) t 300 (nI 0) (nI cnt) L (fillN (fun c => Xv x (14 + 7 * c)) kin 0) (fillN (fun c => Xv x (15 + 7 * c)) pat 0) (fillN (Wv x) wanted (4 * 0)) = some (nI cnt, L, fillN (fun c => Xv x (14 + 7 * c)) kin cnt, fillN (fun c => Xv x (15 + 7 * c)) pat cnt, fillN (Wv x) wanted (4 * cnt)) := by
    intro L
    refine lpS (fun N k => f_Hall_read_50 (nI n) t N (nI k) (nI cnt) L (fillN (fun c => Xv x (14 + 7 * c)) kin k) (fillN (fun c => Xv x (15 + 7 * c)) pat k) (fillN (Wv x) wanted (4 * k))) cnt _ ?_ ?_ 300 0 (by omega) (by omega)
    · intro N k hk
      have h0 := fit_num (c := k) (k := 0) (by omega) (by have := (hc (6 * k) (by omega)).2; rw [show 6 * k / 6 = k by omega, show 6 * k % 6 = 0 by omega] at this; exact this)
      have h1 := fit_num (c := k) (k := 1) (by omega) (by have := (hc (6 * k + 1) (by omega)).2; rw [show (6 * k + 1) / 6 = k by omega, show (6 * k + 1) % 6 = 1 by omega] at this; exact this)
      have h2 : ∀ f, f < 4 → 48 ≤ x (16 + 7 * k + f) := fun f hf => by
        have := fit_num (c := k) (k := 2 + f) (by omega) (by have := (hc (6 * k + (2 + f)) (by omega)).2; rw [show (6 * k + (2 + f)) / 6 = k by omega, show (6 * k + (2 + f)) % 6 = 2 + f by omega] at this; exact this)
        rw [show 16 + 7 * k + f = 14 + 7 * k + (2 + f) by omega]
        exact this.1
      show f_Hall_read_50_b _ _ _ _ _ _ _ _ _ = _
      unfold f_Hall_read_50_b
      rw [if_neg (nI_ge hk (by omega)), show (13 : Int32) + nI k * 7 = nI (13 + 7 * k) by rw [show (13 : Int32) = nI 13 from rfl, show (7 : Int32) = nI 7 from rfl, pk_mul, nI_add, Nat.mul_comm], show nI (13 + 7 * k) + 1 = nI (14 + 7 * k) by rw [nI_1]; congr 1; omega, show nI (13 + 7 * k) + 2 = nI (15 + 7 * k) by rw [show (2 : Int32) = nI 2 from rfl, nI_add]; congr 1; omega, figure_eq hn hx (j := 14 + 7 * k) (by omega) h0.1, Option.bind_some, wr_n (by omega) (by omega), Option.bind_some, figure_eq hn hx (by omega) (by have := h1.1; rw [show 15 + 7 * k = 14 + 7 * k + 1 by omega]; exact this), Option.bind_some, wr_n (by omega) (by omega), Option.bind_some, fillN_s rfl, fillN_s rfl]
      exact read95_eq (β := Nat) hn hx (by omega) (by omega) h2 _ _ _ _ _ _
    · intro N
      show f_Hall_read_50_b _ _ _ _ _ _ _ _ _ = _
      unfold f_Hall_read_50_b
      rw [if_pos (nI_le (by omega) (by omega))]
  have h0 : f_Hall_read (nI n) t cn lay kin pat wanted = f_Hall_read_2 (nI n) t 300 (nI 0) cn (fillN (fun j => Xv x (1 + j)) lay 0) kin pat wanted := by rw [fillN_0]; rfl
  rw [h0]
  refine lpS (fun N k => f_Hall_read_2 (nI n) t N (nI k) cn (fillN (fun j => Xv x (1 + j)) lay k) kin pat wanted) 12 _ ?_ ?_ 300 0 (by omega) (by omega)
  · intro N k hk
    show f_Hall_read_2_b _ _ _ _ _ _ _ _ _ = _
    unfold f_Hall_read_2_b
    rw [if_neg (show ¬ (Int32.ofNat 12) ≤ nI k from nI_ge (b := 12) hk (by omega)), show (1 : Int32) + nI k = nI (1 + k) by rw [show (1 : Int32) = nI 1 from rfl, nI_add], figure_eq hn hx (by omega) (fit_lay (by omega) (by omega) (hl k hk).2).1, Option.bind_some, wr_n (by omega) (by omega), Option.bind_some, fillN_s rfl, nI_1]
  · intro N
    show f_Hall_read_2_b _ _ _ _ _ _ _ _ _ = _
    unfold f_Hall_read_2_b
    rw [if_pos (show (Int32.ofNat 12) ≤ nI 12 by decide), show nI n - 13 = nI (n - 13) from pk_sub (b := 13) (by omega), show nI (n - 13) / 7 = nI ((n - 13) / 7) from pk_div (d := 7) (by omega) (by omega) (by omega), hcnt, mnc5 (by omega)]
    have := hlast (fillN (fun j => Xv x (1 + j)) lay 12)
    rw [fillN_0, fillN_0, Nat.mul_zero, fillN_0] at this
    exact this
end HALL
theorem arrfill {m : Nat} (hm : m < 300) (v : Int32) (f : Nat → Int32) : f_Arr_fill v m f = some (fillN (fun _ => v) f m) := by
  have h0 : f_Arr_fill v m f = f_Arr_fill_5 m 300 v (nI 0) (nI m) (fillN (fun _ => v) f 0) := by rw [fillN_0]; rfl
  rw [h0]
  refine lpS (fun N k => f_Arr_fill_5 m N v (nI k) (nI m) (fillN (fun _ => v) f k)) m _ ?_ ?_ 300 0 (by omega) (by omega)
  · intro N k hk
    show f_Arr_fill_5_b _ _ _ _ _ _ = _
    unfold f_Arr_fill_5_b
    rw [if_neg (nI_ge hk (by omega)), wr_n hk (by omega), Option.bind_some, fillN_s rfl, nI_1]
  · intro N
    show f_Arr_fill_5_b _ _ _ _ _ _ = _
    unfold f_Arr_fill_5_b
    rw [if_pos (nI_le (by omega) (by omega))]
theorem empty_eq (nt : Int32) (off w : Nat → Int32) : f_Scene_empty nt off w = some (0, fillN (fun _ => 0) off 4, fillN (fun _ => -9) w 5) := by
  unfold f_Scene_empty
  rw [arrfill (by omega), Option.bind_some, arrfill (by omega), Option.bind_some]
def pg0 (j : Nat) : Int32 := if 10 ≤ j ∧ j ≤ 14 then -9 else 0
theorem pmhall_eq {cnt : Nat} (hc : cnt ≤ 5) (ts : Int32) (tx : Nat → Int32) (th pl rcn acts : Int32) (layer cab rl rc pg isK : Nat → Int32) : f_PM_hall_27 ts tx 300 0 th pl (nI cnt) rcn acts layer cab rl rc pg isK = some (nI cnt, th, pl, nI cnt, rcn, 0, fillN rl layer 12, fillN rc cab (6 * cnt), rl, rc, fillN pg0 pg 16, upd (upd isK 0 0) 1 0) := by
  have h84 : ∀ (l c : Nat → Int32), f_PM_hall_84 ts tx 300 0 th pl (nI cnt) rcn acts l c rl rc pg isK = some (nI cnt, th, pl, nI cnt, rcn, 0, l, c, rl, rc, fillN pg0 pg 16, upd (upd isK 0 0) 1 0) := by
    intro l c
    have h0 : f_PM_hall_84 ts tx 300 0 th pl (nI cnt) rcn acts l c rl rc pg isK = f_PM_hall_84 ts tx 300 (nI 0) th pl (nI cnt) rcn acts l c rl rc (fillN pg0 pg 0) isK := by rw [fillN_0]; rfl
    rw [h0]
    refine lpS (fun N k => f_PM_hall_84 ts tx N (nI k) th pl (nI cnt) rcn acts l c rl rc (fillN pg0 pg k) isK) 16 _ ?_ ?_ 300 0 (by omega) (by omega)
    · intro N k hk
      show f_PM_hall_84_b _ _ _ _ _ _ _ _ _ _ _ _ _ _ _ = _
      unfold f_PM_hall_84_b f_PM_hall_115
      rw [if_neg (show ¬ (16 : Int32) ≤ nI k from nI_ge (b := 16) hk (by omega)), in_lit (x := nI k) (lo := 10) (hi := 14) (by omega) (by omega) (a := 10) (b := 14) rfl rfl, Option.bind_some, nI_toInt (by omega)]
      by_cases hb : 10 ≤ k ∧ k ≤ 14
      · rw [if_pos (show ((10 : Nat) : Int) ≤ (k : Int) ∧ (k : Int) ≤ ((14 : Nat) : Int) by omega), if_neg (show ¬ ((1 : Int32) = 0) by decide), wr_n hk (by omega), Option.bind_some, fillN_s (by unfold pg0; rw [if_pos hb]), nI_1]
      · rw [if_neg (show ¬ (((10 : Nat) : Int) ≤ (k : Int) ∧ (k : Int) ≤ ((14 : Nat) : Int)) by omega), if_pos (show (0 : Int32) = 0 from rfl), wr_n hk (by omega), Option.bind_some, fillN_s (by unfold pg0; rw [if_neg hb]), nI_1]
    · intro N
      show f_PM_hall_84_b _ _ _ _ _ _ _ _ _ _ _ _ _ _ _ = _
      unfold f_PM_hall_84_b
      rw [if_pos (show (16 : Int32) ≤ nI 16 by decide), show wr isK 2 0 0 = some (upd isK 0 0) from wr_n (k := 0) (by omega) (by omega), Option.bind_some, show wr (upd isK 0 0) 2 1 0 = some (upd (upd isK 0 0) 1 0) from wr_n (k := 1) (by omega) (by omega), Option.bind_some]
  have h53 : ∀ (l : Nat → Int32), f_PM_hall_53 ts tx 300 0 th pl (nI cnt) rcn acts l cab rl rc pg isK = some (nI cnt, th, pl, nI cnt, rcn, 0, l, fillN rc cab (6 * cnt), rl, rc, fillN pg0 pg 16, upd (upd isK 0 0) 1 0) := by
    intro l
    have h0 : f_PM_hall_53 ts tx 300 0 th pl (nI cnt) rcn acts l cab rl rc pg isK = f_PM_hall_53 ts tx 300 (nI 0) th pl (nI cnt) rcn acts l (fillN rc cab 0) rl rc pg isK := by rw [fillN_0]; rfl
    rw [h0]
    refine lpS (fun N k => f_PM_hall_53 ts tx N (nI k) th pl (nI cnt) rcn acts l (fillN rc cab k) rl rc pg isK) (6 * cnt) _ ?_ ?_ 300 0 (by omega) (by omega)
    · intro N k hk
      show f_PM_hall_53_b _ _ _ _ _ _ _ _ _ _ _ _ _ _ _ = _
      unfold f_PM_hall_53_b
      rw [show (6 : Int32) * nI cnt = nI (6 * cnt) from pk_mul 6 cnt, if_neg (nI_ge hk (by omega)), rd_n (by omega) (by omega), Option.bind_some, wr_n (by omega) (by omega), Option.bind_some, fillN_s rfl, nI_1]
    · intro N
      show f_PM_hall_53_b _ _ _ _ _ _ _ _ _ _ _ _ _ _ _ = _
      unfold f_PM_hall_53_b
      rw [show (6 : Int32) * nI cnt = nI (6 * cnt) from pk_mul 6 cnt, if_pos (nI_le (by omega) (by omega)), h84]
  have h0 : f_PM_hall_27 ts tx 300 0 th pl (nI cnt) rcn acts layer cab rl rc pg isK = f_PM_hall_27 ts tx 300 (nI 0) th pl (nI cnt) rcn acts (fillN rl layer 0) cab rl rc pg isK := by rw [fillN_0]; rfl
  rw [h0]
  refine lpS (fun N k => f_PM_hall_27 ts tx N (nI k) th pl (nI cnt) rcn acts (fillN rl layer k) cab rl rc pg isK) 12 _ ?_ ?_ 300 0 (by omega) (by omega)
  · intro N k hk
    show f_PM_hall_27_b _ _ _ _ _ _ _ _ _ _ _ _ _ _ _ = _
    unfold f_PM_hall_27_b
    rw [if_neg (show ¬ (12 : Int32) ≤ nI k from nI_ge (b := 12) hk (by omega)), rd_n (by omega) (by omega), Option.bind_some, wr_n (by omega) (by omega), Option.bind_some, fillN_s rfl, nI_1]
  · intro N
    show f_PM_hall_27_b _ _ _ _ _ _ _ _ _ _ _ _ _ _ _ = _
    unfold f_PM_hall_27_b
    rw [if_pos (show (12 : Int32) ≤ nI 12 by decide), h53]
theorem scene0 {n : Nat} {off w pg : Nat → Int32} {nt : Int32} (h1 : ∀ f, f < 4 → off f = 0) (h2 : ∀ c, c < 5 → w c = -9) (h3 : ∀ j, j < 16 → pg j = pg0 j) (hnt : nt = 0) : SceneR 0 n off w nt pg := by
  refine ⟨fun f hf => ⟨0, by omega, h1 f hf⟩, ⟨fun c hc => Or.inl (h2 c hc), fun c _ hc => h2 c hc⟩, [], ⟨List.nodup_nil, fun c => ?_, List.Pairwise.nil⟩, ?_⟩
  · constructor
    · intro h; exact absurd h (by simp)
    · intro h; exact absurd (h2 c h.1) h.2
  · refine ⟨fun f hf => ?_, fun c hc => ?_, ?_, ?_, fun i hi => absurd hi (by simp), by simp, fun c hc => absurd hc (by simp)⟩
    · rw [h3 f (by omega), h1 f hf]; unfold pg0; rw [if_neg (by omega)]
    · rw [h3 (10 + c) (by omega), h2 c hc]; unfold pg0; rw [if_pos (by omega)]
    · rw [h3 15 (by omega), hnt]; rfl
    · rw [h3 4 (by omega)]; rfl
theorem slots0 {K n : Nat} {kp : Int32} {sc kt isK : Nat → Int32} (h : kp = 0) (h0 : isK 0 = 0) (h1 : isK 1 = 0) : SlotsR K n kp sc kt isK := by
  refine ⟨0, by omega, h, fun i hi => ⟨?_, fun e => absurd e (by simp)⟩⟩
  have : i = 0 ∨ i = 1 := by omega
  rcases this with e | e <;> subst e <;> simp [h0, h1]
theorem op_hall {n : Nat} {tl ts th pl rn : Int32} {tt tx rl rc : Nat → Int32} (h : TextR tl tt ts tx) (ac kp acts nt : Int32) (lay kin pat wanted off w layer cab pg isK : Nat → Int32) : ∃ r r', f_PR_hall tl tt ac kp (nI n) lay kin pat wanted nt off w = some r ∧ f_PM_hall ts tx th pl (nI n) rn acts layer cab rl rc pg isK = some r' ∧ r.1 = r'.1 ∧
    ((r.2 = (ac, kp, nI n, lay, kin, pat, wanted, nt, off, w) ∧ r'.2.2.2.1 = nI n ∧ r'.2.2.2.2.2.1 = acts ∧ r'.2.2.2.2.2.2.1 = layer ∧ r'.2.2.2.2.2.2.2.1 = cab ∧ r'.2.2.2.2.2.2.2.2.2.2.1 = pg ∧ r'.2.2.2.2.2.2.2.2.2.2.2 = isK) ∨
     (∃ m, r.2.1 = 0 ∧ r.2.2.1 = 0 ∧ r.2.2.2.1 = nI m ∧ r'.2.2.2.1 = nI m ∧ r'.2.2.2.2.2.1 = 0 ∧ HallR m r.2.2.2.2.1 r.2.2.2.2.2.1 r.2.2.2.2.2.2.1 r.2.2.2.2.2.2.2.1 r'.2.2.2.2.2.2.1 r'.2.2.2.2.2.2.2.1 ∧ SceneR 0 m r.2.2.2.2.2.2.2.2.2.1 r.2.2.2.2.2.2.2.2.2.2 r.2.2.2.2.2.2.2.2.1 r'.2.2.2.2.2.2.2.2.2.2.1 ∧ r'.2.2.2.2.2.2.2.2.2.2.2 0 = 0 ∧ r'.2.2.2.2.2.2.2.2.2.2.2 1 = 0)) := by
  obtain ⟨n', x, hn, rfl, rfl, htx, hx⟩ := TextR_x h
  unfold f_PR_hall f_PM_hall f_Text_firstFault
  obtain ⟨r, e1, e2, e3⟩ := readHall_eq hn htx hx pl rn rl rc
  rw [show f_Text_firstFault_2 (nI n') tt 300 0 = _ from fault_eq hn hx n' 0 300 (by omega) (by omega), e1, Option.bind_some, Option.bind_some, ← e2]
  by_cases h9 : r.1 = -9
  · have hR := e3 h9
    rw [if_pos h9, if_pos h9, hallread_eq hn hx hR, Option.bind_some, empty_eq, Option.bind_some]
    obtain ⟨h13, hm, hrc, hl, hc⟩ := hR
    obtain ⟨cnt, hcnt⟩ : ∃ cnt, (n' - 13) / 7 = cnt := ⟨_, rfl⟩
    rw [hcnt] at hrc hc ⊢
    rw [hrc, pmhall_eq (by omega)]
    refine ⟨_, _, rfl, rfl, rfl, Or.inr ⟨cnt, rfl, rfl, rfl, rfl, rfl, ?_, ?_, ?_, ?_⟩⟩
    · refine ⟨by omega, fun j hj => ?_, fun c hcc => ?_⟩
      · dsimp only
        rw [fillN_in hj, fillN_in hj, (hl j hj).1]
        have := fit_lay (by omega) (by omega) (hl j hj).2
        exact ⟨rfl, x (1 + j) - 48, by omega, rfl⟩
      · have g : ∀ k, k < 6 → r.2.2.2.2 (6 * c + k) = Xv x (14 + 7 * c + k) ∧ 48 ≤ x (14 + 7 * c + k) ∧ x (14 + 7 * c + k) ≤ (if k = 1 then 57 else 51) := fun k hk => by
          have := hc (6 * c + k) (by omega)
          rw [show (6 * c + k) / 6 = c by omega, show (6 * c + k) % 6 = k by omega] at this
          exact ⟨this.1, fit_num hk this.2⟩
        dsimp only
        refine ⟨?_, ?_, fun f hf => ?_⟩
        · have g0 := g 0 (by omega)
          rw [fillN_in (by omega), fillN_in hcc]
          rw [if_neg (by omega)] at g0
          exact ⟨g0.1, x (14 + 7 * c) - 48, by have := g0.2.2; rw [Nat.add_zero] at this; omega, rfl⟩
        · have g0 := g 1 (by omega)
          rw [fillN_in (by omega), fillN_in hcc]
          rw [if_pos rfl, show 14 + 7 * c + 1 = 15 + 7 * c by omega] at g0
          exact ⟨g0.1, x (15 + 7 * c) - 48, by omega, rfl⟩
        · have g0 := g (2 + f) (by omega)
          rw [fillN_in (by omega), fillN_in (by omega)]
          rw [if_neg (by omega), show 14 + 7 * c + (2 + f) = 16 + 7 * c + f by omega, ← Nat.add_assoc] at g0
          have hw : Wv x (4 * c + f) = Xv x (16 + 7 * c + f) := by
            unfold Wv; rw [show (4 * c + f) / 4 = c by omega, show (4 * c + f) % 4 = f by omega]
          rw [hw]
          exact ⟨g0.1, x (16 + 7 * c + f) - 48, by omega, rfl⟩
    · dsimp only
      exact scene0 (fun f hf => fillN_in (g := fun _ => 0) hf) (fun c hc => fillN_in (g := fun _ => -9) hc) (fun j hj => fillN_in hj) rfl
    · dsimp only; rw [up_n (by omega), up_s]
    · dsimp only; rw [up_s]
  · rw [if_neg h9, if_neg h9]
    exact ⟨_, _, rfl, rfl, rfl, Or.inl ⟨rfl, rfl, rfl, rfl, rfl, rfl, rfl⟩⟩
