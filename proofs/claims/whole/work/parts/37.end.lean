/-! THE CLAIM OUT OF ONE WALK OF THE LAW'S BODY. Your part is whole_start (and what it stands on); all else here is the same for every law, but numbers. -/
def R_law : String := "PortraitRankLaw"
def lw_P (b : Addr) (xs : List Int32) (args : Array Value) (s : State) : Prop := args = #[.ref b] ∧ s.IntsAt b xs ∧ xs.length ≤ 320 ∧ (Jvm.Cond.and given_1 narrow_1).before args s = true
def lw_Q (_ : Array Value) (s : State) (o : Outcome) (t : State) : Prop := o = .returned (some (.int 1)) ∧ Framed s o t [] 600000 7302250
def lw_Z (below : List Frame) (a : Array Value) (s : State) : State → Prop := fun t => ∃ o, t.status = .running ∧ Ended t below o ∧ lw_Q a s o t
/-- the law's own end, with 1 on the stack, nothing written that was there before, its room as the claim has it -/
theorem lw_ret {p : Program} {l : Launch} {e : Env} {s : State} {m : MethodId} {below : List Frame} {meth : Method} {c : Code} {b : Nat} (hx : p.tables.exec = Jvm.exec) (hb : c.code = code) (hr : meth.sig.returnType = ret) (hlocks : meth.locks = false) {pc : Nat} {H : Heap} {ls : Array Slot} (hdg : decode code pc = .ok (.ireturn, 1)) : W p l e room_1 s m #[Value.ref b] below meth c H [] 600000 7302250 (lw_Z below #[Value.ref b] s) (F0 m pc ls [.int 1]) := by
  intro T hT X
  obtain ⟨fs, hret, hrun, hended, hW, hframe⟩ := X.leave (v := some (.int 1)) (hlocks := hlocks) (fun h => by rw [hr] at h; cases h)
  have hmeth' : T.vm.method? m = some meth := X.method'
  refine ⟨T.setFrames fs, ?_, .returned (some (.int 1)), hrun, hended, rfl, ⟨_, rfl⟩, hW, hframe⟩
  jvm_step X.here [X.here.top, hx, hb, hdg, hmeth', hr, ret, narrow_b1]
  (try refine ⟨rfl, ?_⟩); (try refine ⟨rfl, ?_⟩)
  first | (intro acts; rw [hret _ acts rfl rfl rfl]) | rw [hret _ _ rfl rfl rfl]
  exact Steps.refl _
/-- what holds at the law's entry: the machine, the code, the tables' words (any of lw_tbl by 'hts w (by decide +kernel)'), the script of L ints xs at the cell b, what the Statement gives of the start (any of its parts by flat_of_before) -/
def lw_At (p : Program) (s : State) (m : MethodId) (meth : Method) (c : Code) (b L : Nat) (xs : Nat → Int32) : Prop :=
  p.tables.exec = Jvm.exec ∧ c.code = code ∧ meth.sig.returnType = ret ∧ c.maxLocals = 4 ∧ s.vm.findClass R_law = some m.cls ∧ (∀ w ∈ lw_tbl, w.before #[Value.ref b] s = true) ∧ va_X b L xs s s.heap ∧ b < s.heap.size ∧ meth.locks = false ∧ (Jvm.Cond.and given_1 narrow_1).before #[Value.ref b] s = true
/-- at the start the two systems stand alike -/
theorem inv0 : Inv 0 (PRv.mk 0 0 0 0 (fun _ => 0) 0 (fun _ => 0) (fun _ => 0) (fun _ => 0) (fun _ => 0) 0 (fun _ => 0) (fillN (fun _ => -9) (fun _ => 0) 5) 0 (fun _ => 0) (fillN (fun _ => -9) (fun _ => 0) 5) (fun _ => 0) (fun _ => 0) (fun _ => 0) 0 (fun _ => 0)) (PMv.mk 0 0 0 0 0 0 0 0 0 0 0 0 0 0 0 (fun _ => 0) (fun _ => 0) (fun _ => 0) (fun _ => 0) (fun _ => 0) (pgK 5) (fun _ => 0) (fun _ => 0) (fun _ => 0) (fun _ => 0) (fun _ => 0) (fun _ => 0) (fun _ => 0) (fun _ => 0) (fun _ => 0) (fun _ => 0)) := by
  refine ⟨0, 0, rfl, rfl, by omega, rfl, rfl, ⟨by omega, fun j _ => ⟨rfl, 0, by omega, rfl⟩, fun c hc => absurd hc (by omega)⟩, scene0 (fun f _ => rfl) (fun c hc => show fillN (fun _ => -9) (fun _ => 0) 5 c = -9 from fillN_in (g := fun _ => -9) (w := fun _ => 0) hc) (fun j _ => ?_) rfl, fun i hi => absurd hi (by omega), slots0 rfl rfl rfl, ⟨0, by omega, rfl, rfl, fun k hk => absurd hk (by omega)⟩, ⟨0, by omega, rfl, rfl, fun j _ => rfl, fun j hj => absurd hj (by omega)⟩, rfl⟩
  show pgK 5 j = pg0 j
  unfold pgK pg0
  by_cases h : 10 ≤ j ∧ j < 10 + 5
  · rw [if_pos h, if_pos (by omega)]
  · rw [if_neg h, if_neg (by omega)]
set_option maxHeartbeats 4000000 in
set_option maxRecDepth 100000 in
theorem whole_start {p : Program} {e : Env} {s : State} {m : MethodId} {below : List Frame} {meth : Method} {c : Code} (l : Launch) (hflags : l.flags = flags0) {b L : Nat} {xs : Nat → Int32} (hL : L ≤ 320) (C0 : lw_At p s m meth c b L xs) : W p l e room_1 s m #[Value.ref b] below meth c s.heap [] 0 0 (lw_Z below #[Value.ref b] s) (entryFrame m ([Value.ref b] : List Value).toArray 4) := by
  obtain ⟨hx, hb, hr, hml, hown, hts0, hX, hbl, hlocks, hgv⟩ := id C0
  have hA : ∀ q : Nat, s.heap.size ≤ q → (fun q : Nat => s.heap.size ≤ q) q := fun _ h => h
  have hbA : ¬ (fun q : Nat => s.heap.size ≤ q) b := Nat.not_le.mpr hbl
  have hts : ∀ w ∈ gt, w.before #[Value.ref b] s = true := fun w hw => hts0 w (gt_lw hw)
  obtain ⟨c0, iS0, hKn0⟩ := u_known (C := R_Hall) (T := F_Hall) (N := 5) (n := 5) hts i_Hall (hts _ g38)
  obtain ⟨c1, iS1, hKn1⟩ := u_known (C := R_Hand) (T := F_Hand) (N := 1) (n := 1) hts i_Hand (hts _ g85)
  obtain ⟨c2, iS2, hKn2⟩ := u_known (C := R_Scene) (T := F_Scene) (N := 3) (n := 3) hts i_Scene (hts _ g62)
  obtain ⟨c3, iS3, hKn3⟩ := u_known (C := R_Seen) (T := F_Seen) (N := 2) (n := 2) hts i_Seen (hts _ g111)
  obtain ⟨c4, iS4, hKn4⟩ := u_known (C := R_Shelf) (T := F_Shelf) (N := 2) (n := 2) hts i_Shelf (hts _ g95)
  obtain ⟨c5, iS5, hKn5⟩ := u_known (C := R_Text) (T := F_Text) (N := 2) (n := 2) hts i_Text (hts _ g22)
  obtain ⟨c6, iS6, hKn6⟩ := u_known (C := R_PR) (T := F_PR) (N := 11) (n := 11) hts i_PR (hts _ g14)
  obtain ⟨c7, iS7, hKn7⟩ := u_known (C := R_PM) (T := F_PM) (N := 31) (n := 31) hts i_PM (hts _ g506)
  obtain ⟨D, hKc⟩ : ∃ (D : va_G), ∀ (k : Nat) (q : vw_C), classes[k]? = some q → u_Kn s q.1 q.2.1 q.2.2 (D.1 k) (D.2 k) := by
    refine ⟨(fun k => [c0, c1, c2, c3, c4, c5, c6, c7].getD k c0, fun k => [iS0, iS1, iS2, iS3, iS4, iS5, iS6, iS7].getD k iS0), ?_⟩
    intro k q hq
    match k, hq with
    | 0, hq => cases hq; exact hKn0
    | 1, hq => cases hq; exact hKn1
    | 2, hq => cases hq; exact hKn2
    | 3, hq => cases hq; exact hKn3
    | 4, hq => cases hq; exact hKn4
    | 5, hq => cases hq; exact hKn5
    | 6, hq => cases hq; exact hKn6
    | 7, hq => cases hq; exact hKn7
    | k + 8, hq => simp [classes] at hq
  obtain ⟨cI, kI, compI, hI1, hI2, hI3⟩ := Cond.arrayClass_spec (hts _ g36)
  obtain ⟨cZ, kZ, compZ, hZ1, hZ2, hZ3⟩ := Cond.arrayClass_spec (hts _ g605)
  have hKK : KK D cI cZ s := by
    refine ⟨⟨hKc, fun k q hk => ?_⟩, fun w hw => ?_⟩
    · match k, hk with
      | 0, hk => cases hk; exact ⟨fun n z => ⟨fun k h => (by cases h), kI, hI2, compI, hI3⟩, hI1⟩
      | 1, hk => cases hk; exact ⟨fun n z => ⟨fun k h => (by cases h), kZ, hZ2, compZ, hZ3⟩, hZ1⟩
      | k + 2, hk => simp at hk
    · have h1 := (List.mem_filter.mp hw).1
      have h2 := (List.mem_filter.mp hw).2
      refine va_Nw.of ?_ (hts0 w h1)
      cases w <;> first | rfl | exact absurd h2 (by simp [nw_is])
  have hC : Cx p s m #[Value.ref b] meth c code 4 R_Law D cI cZ := ⟨hx, hb, hml, hown, hts, hlocks, hKK⟩
  have hown : s.vm.findClass R_Law = some m.cls := hown
  have hS : va_S (fun q : Nat => s.heap.size ≤ q) s.heap s.heap [] := va_S.rf
  have hP : va_P D classes [] s.heap := fun k q h => by simp at h
  have hD : va_D (fun q : Nat => s.heap.size ≤ q) [] := ⟨fun i j p q h => by simp at h, fun k q h => by simp at h⟩
  have hl := lv_entry ([.ref b]) (n := 4) (Nat.le_of_ble_eq_true rfl)
  rw [lg_entry_eq]
  generalize (lg_sl ([.ref b]) ++ List.replicate (4 - (lg_sl ([.ref b])).length) Slot.unset).toArray = ls at hl ⊢
  have hl : lv_has ls 4 [(0, .ref b)] := hl
  refine va_new (ci := 6) (fs := [.null, .null, .null, .null, .null, .null, .null, .null, .int 0, .int 0, .long 0]) (C := R_PR) (T := F_PR) (N := 11) hx hb hts i_PR t_PR t_PR_ok hown (hts _ g13) (hts _ g14) (hts _ g1) hKK.1 hP hD hS hA rfl (by decide) (Nat.le_of_ble_eq_true rfl) (Nat.le_of_ble_eq_true rfl) d_Law_law_0 (fun g0 H hP hD hS => ?_)
  have hP : va_P D classes [(g0, .inr (6, [.null, .null, .null, .null, .null, .null, .null, .null, .int 0, .int 0, .long 0]))] H := hP
  have hD : va_D (fun q : Nat => s.heap.size ≤ q) [(g0, .inr (6, [.null, .null, .null, .null, .null, .null, .null, .null, .int 0, .int 0, .long 0]))] := hD
  refine lv_dup hx hb d_Law_law_3 rfl ?_
  refine cI_ (rest := [.ref g0]) (wr := []) (ci_PR l D cI cZ g0) hC hA hP hD hS hl.1 cwi_Law_9 ⟨Nat.le_of_ble_eq_true rfl, Nat.le_of_ble_eq_true rfl⟩ rfl rfl (Nat.le_of_ble_eq_true rfl) d_Law_law_4 ⟨Nat.le_of_ble_eq_true rfl, Nat.le_of_ble_eq_true rfl⟩ [0] [] (by decide) rfl rfl (by decide) (by decide) (fun w1 H locs hw hP hD hS => ?_)
  obtain ⟨o1, r1_1, o2, r2_1, r2_2, r2_3, r2_4, o3, r3_1, r3_2, o4, r4_1, r4_2, o5, r5_1, o6, r6_1, o7, r7_1, o8, r8_1, rfl⟩ := hw
  have hP : va_P D classes [(g0, .inr (6, [.ref o1, .ref o2, .ref o3, .ref o4, .ref o5, .ref o6, .ref o7, .ref o8, .int 0, .int 0, .long 0])), (o1, .inr (5, [.ref r1_1, .int 0])), (r1_1, .inl (cI, 48, .inl (fun _ => 0))), (o2, .inr (0, [.ref r2_1, .ref r2_2, .ref r2_3, .ref r2_4, .int 0])), (r2_1, .inl (cI, 12, .inl (fun _ => 0))), (r2_2, .inl (cI, 5, .inl (fun _ => 0))), (r2_3, .inl (cI, 5, .inl (fun _ => 0))), (r2_4, .inl (cI, 20, .inl (fun _ => 0))), (o3, .inr (2, [.ref r3_1, .ref r3_2, .int 0])), (r3_1, .inl (cI, 4, .inl (fun _ => 0))), (r3_2, .inl (cI, 5, .inl (fillN (fun _ => -9) (fun _ => 0) 5))), (o4, .inr (2, [.ref r4_1, .ref r4_2, .int 0])), (r4_1, .inl (cI, 4, .inl (fun _ => 0))), (r4_2, .inl (cI, 5, .inl (fillN (fun _ => -9) (fun _ => 0) 5))), (o5, .inr (1, [.ref r5_1])), (r5_1, .inl (cI, 4, .inl (fun _ => 0))), (o6, .inr (4, [.int 14, .ref r6_1])), (r6_1, .inl (cI, 140, .inl (fun _ => 0))), (o7, .inr (4, [.int 2, .ref r7_1])), (r7_1, .inl (cI, 20, .inl (fun _ => 0))), (o8, .inr (3, [.ref r8_1, .int 0])), (r8_1, .inl (cI, 24, .inl (fun _ => 0)))] H := hP
  have hD : va_D (fun q : Nat => s.heap.size ≤ q) [(g0, .inr (6, [.ref o1, .ref o2, .ref o3, .ref o4, .ref o5, .ref o6, .ref o7, .ref o8, .int 0, .int 0, .long 0])), (o1, .inr (5, [.ref r1_1, .int 0])), (r1_1, .inl (cI, 48, .inl (fun _ => 0))), (o2, .inr (0, [.ref r2_1, .ref r2_2, .ref r2_3, .ref r2_4, .int 0])), (r2_1, .inl (cI, 12, .inl (fun _ => 0))), (r2_2, .inl (cI, 5, .inl (fun _ => 0))), (r2_3, .inl (cI, 5, .inl (fun _ => 0))), (r2_4, .inl (cI, 20, .inl (fun _ => 0))), (o3, .inr (2, [.ref r3_1, .ref r3_2, .int 0])), (r3_1, .inl (cI, 4, .inl (fun _ => 0))), (r3_2, .inl (cI, 5, .inl (fillN (fun _ => -9) (fun _ => 0) 5))), (o4, .inr (2, [.ref r4_1, .ref r4_2, .int 0])), (r4_1, .inl (cI, 4, .inl (fun _ => 0))), (r4_2, .inl (cI, 5, .inl (fillN (fun _ => -9) (fun _ => 0) 5))), (o5, .inr (1, [.ref r5_1])), (r5_1, .inl (cI, 4, .inl (fun _ => 0))), (o6, .inr (4, [.int 14, .ref r6_1])), (r6_1, .inl (cI, 140, .inl (fun _ => 0))), (o7, .inr (4, [.int 2, .ref r7_1])), (r7_1, .inl (cI, 20, .inl (fun _ => 0))), (o8, .inr (3, [.ref r8_1, .int 0])), (r8_1, .inl (cI, 24, .inl (fun _ => 0)))] := hD
  refine lv_astore_n (lv' := [(1, .ref g0), (0, .ref b)]) hx hb d_Law_law_7 rfl hl (by decide) rfl (fun ls hl => ?_)
  refine va_new (ci := 7) (fs := [.int 0, .null, .int 0, .int 0, .null, .int 0, .null, .null, .int 0, .null, .null, .null, .null, .int 0, .null, .null, .int 0, .null, .null, .null, .null, .long 0, .int 0, .int 0, .int 0, .int 0, .int 0, .int 0, .int 0, .null, .null]) (C := R_PM) (T := F_PM) (N := 31) hx hb hts i_PM t_PM t_PM_ok hown (hts _ g505) (hts _ g506) (hts _ g10) hKK.1 hP hD hS hA rfl (by decide) (Nat.le_of_ble_eq_true rfl) (Nat.le_of_ble_eq_true rfl) d_Law_law_8 (fun h0 H hP hD hS => ?_)
  have hP : va_P D classes [(g0, .inr (6, [.ref o1, .ref o2, .ref o3, .ref o4, .ref o5, .ref o6, .ref o7, .ref o8, .int 0, .int 0, .long 0])), (o1, .inr (5, [.ref r1_1, .int 0])), (r1_1, .inl (cI, 48, .inl (fun _ => 0))), (o2, .inr (0, [.ref r2_1, .ref r2_2, .ref r2_3, .ref r2_4, .int 0])), (r2_1, .inl (cI, 12, .inl (fun _ => 0))), (r2_2, .inl (cI, 5, .inl (fun _ => 0))), (r2_3, .inl (cI, 5, .inl (fun _ => 0))), (r2_4, .inl (cI, 20, .inl (fun _ => 0))), (o3, .inr (2, [.ref r3_1, .ref r3_2, .int 0])), (r3_1, .inl (cI, 4, .inl (fun _ => 0))), (r3_2, .inl (cI, 5, .inl (fillN (fun _ => -9) (fun _ => 0) 5))), (o4, .inr (2, [.ref r4_1, .ref r4_2, .int 0])), (r4_1, .inl (cI, 4, .inl (fun _ => 0))), (r4_2, .inl (cI, 5, .inl (fillN (fun _ => -9) (fun _ => 0) 5))), (o5, .inr (1, [.ref r5_1])), (r5_1, .inl (cI, 4, .inl (fun _ => 0))), (o6, .inr (4, [.int 14, .ref r6_1])), (r6_1, .inl (cI, 140, .inl (fun _ => 0))), (o7, .inr (4, [.int 2, .ref r7_1])), (r7_1, .inl (cI, 20, .inl (fun _ => 0))), (o8, .inr (3, [.ref r8_1, .int 0])), (r8_1, .inl (cI, 24, .inl (fun _ => 0))), (h0, .inr (7, [.int 0, .null, .int 0, .int 0, .null, .int 0, .null, .null, .int 0, .null, .null, .null, .null, .int 0, .null, .null, .int 0, .null, .null, .null, .null, .long 0, .int 0, .int 0, .int 0, .int 0, .int 0, .int 0, .int 0, .null, .null]))] H := hP
  have hD : va_D (fun q : Nat => s.heap.size ≤ q) [(g0, .inr (6, [.ref o1, .ref o2, .ref o3, .ref o4, .ref o5, .ref o6, .ref o7, .ref o8, .int 0, .int 0, .long 0])), (o1, .inr (5, [.ref r1_1, .int 0])), (r1_1, .inl (cI, 48, .inl (fun _ => 0))), (o2, .inr (0, [.ref r2_1, .ref r2_2, .ref r2_3, .ref r2_4, .int 0])), (r2_1, .inl (cI, 12, .inl (fun _ => 0))), (r2_2, .inl (cI, 5, .inl (fun _ => 0))), (r2_3, .inl (cI, 5, .inl (fun _ => 0))), (r2_4, .inl (cI, 20, .inl (fun _ => 0))), (o3, .inr (2, [.ref r3_1, .ref r3_2, .int 0])), (r3_1, .inl (cI, 4, .inl (fun _ => 0))), (r3_2, .inl (cI, 5, .inl (fillN (fun _ => -9) (fun _ => 0) 5))), (o4, .inr (2, [.ref r4_1, .ref r4_2, .int 0])), (r4_1, .inl (cI, 4, .inl (fun _ => 0))), (r4_2, .inl (cI, 5, .inl (fillN (fun _ => -9) (fun _ => 0) 5))), (o5, .inr (1, [.ref r5_1])), (r5_1, .inl (cI, 4, .inl (fun _ => 0))), (o6, .inr (4, [.int 14, .ref r6_1])), (r6_1, .inl (cI, 140, .inl (fun _ => 0))), (o7, .inr (4, [.int 2, .ref r7_1])), (r7_1, .inl (cI, 20, .inl (fun _ => 0))), (o8, .inr (3, [.ref r8_1, .int 0])), (r8_1, .inl (cI, 24, .inl (fun _ => 0))), (h0, .inr (7, [.int 0, .null, .int 0, .int 0, .null, .int 0, .null, .null, .int 0, .null, .null, .null, .null, .int 0, .null, .null, .int 0, .null, .null, .null, .null, .long 0, .int 0, .int 0, .int 0, .int 0, .int 0, .int 0, .int 0, .null, .null]))] := hD
  refine lv_dup hx hb d_Law_law_11 rfl ?_
  refine cI_ (rest := [.ref h0]) (wr := [(g0, .inr (6, [.ref o1, .ref o2, .ref o3, .ref o4, .ref o5, .ref o6, .ref o7, .ref o8, .int 0, .int 0, .long 0])), (o1, .inr (5, [.ref r1_1, .int 0])), (r1_1, .inl (cI, 48, .inl (fun _ => 0))), (o2, .inr (0, [.ref r2_1, .ref r2_2, .ref r2_3, .ref r2_4, .int 0])), (r2_1, .inl (cI, 12, .inl (fun _ => 0))), (r2_2, .inl (cI, 5, .inl (fun _ => 0))), (r2_3, .inl (cI, 5, .inl (fun _ => 0))), (r2_4, .inl (cI, 20, .inl (fun _ => 0))), (o3, .inr (2, [.ref r3_1, .ref r3_2, .int 0])), (r3_1, .inl (cI, 4, .inl (fun _ => 0))), (r3_2, .inl (cI, 5, .inl (fillN (fun _ => -9) (fun _ => 0) 5))), (o4, .inr (2, [.ref r4_1, .ref r4_2, .int 0])), (r4_1, .inl (cI, 4, .inl (fun _ => 0))), (r4_2, .inl (cI, 5, .inl (fillN (fun _ => -9) (fun _ => 0) 5))), (o5, .inr (1, [.ref r5_1])), (r5_1, .inl (cI, 4, .inl (fun _ => 0))), (o6, .inr (4, [.int 14, .ref r6_1])), (r6_1, .inl (cI, 140, .inl (fun _ => 0))), (o7, .inr (4, [.int 2, .ref r7_1])), (r7_1, .inl (cI, 20, .inl (fun _ => 0))), (o8, .inr (3, [.ref r8_1, .int 0])), (r8_1, .inl (cI, 24, .inl (fun _ => 0)))]) (ci_PM l D cI cZ h0) hC hA hP hD hS hl.1 cwi_Law_12 ⟨Nat.le_of_ble_eq_true rfl, Nat.le_of_ble_eq_true rfl⟩ rfl rfl (Nat.le_of_ble_eq_true rfl) d_Law_law_12 ⟨Nat.le_of_ble_eq_true rfl, Nat.le_of_ble_eq_true rfl⟩ [22] [0, 1, 2, 3, 4, 5, 6, 7, 8, 9, 10, 11, 12, 13, 14, 15, 16, 17, 18, 19, 20, 21] (by decide) rfl rfl (by decide) (by decide) (fun w1 H locs hw hP hD hS => ?_)
  obtain ⟨h1, h2, h3, h4, h5, h6, h7, h8, h9, h10, h11, h12, h13, h14, h15, h16, rfl⟩ := hw
  have hP : va_P D classes [(g0, .inr (6, [.ref o1, .ref o2, .ref o3, .ref o4, .ref o5, .ref o6, .ref o7, .ref o8, .int 0, .int 0, .long 0])), (o1, .inr (5, [.ref r1_1, .int 0])), (r1_1, .inl (cI, 48, .inl (fun _ => 0))), (o2, .inr (0, [.ref r2_1, .ref r2_2, .ref r2_3, .ref r2_4, .int 0])), (r2_1, .inl (cI, 12, .inl (fun _ => 0))), (r2_2, .inl (cI, 5, .inl (fun _ => 0))), (r2_3, .inl (cI, 5, .inl (fun _ => 0))), (r2_4, .inl (cI, 20, .inl (fun _ => 0))), (o3, .inr (2, [.ref r3_1, .ref r3_2, .int 0])), (r3_1, .inl (cI, 4, .inl (fun _ => 0))), (r3_2, .inl (cI, 5, .inl (fillN (fun _ => -9) (fun _ => 0) 5))), (o4, .inr (2, [.ref r4_1, .ref r4_2, .int 0])), (r4_1, .inl (cI, 4, .inl (fun _ => 0))), (r4_2, .inl (cI, 5, .inl (fillN (fun _ => -9) (fun _ => 0) 5))), (o5, .inr (1, [.ref r5_1])), (r5_1, .inl (cI, 4, .inl (fun _ => 0))), (o6, .inr (4, [.int 14, .ref r6_1])), (r6_1, .inl (cI, 140, .inl (fun _ => 0))), (o7, .inr (4, [.int 2, .ref r7_1])), (r7_1, .inl (cI, 20, .inl (fun _ => 0))), (o8, .inr (3, [.ref r8_1, .int 0])), (r8_1, .inl (cI, 24, .inl (fun _ => 0))), (h0, .inr (7, [.int 0, .ref h1, .int 0, .int 0, .ref h2, .int 0, .ref h3, .ref h4, .int 0, .ref h5, .ref h6, .ref h7, .ref h8, .int 0, .ref h9, .ref h10, .int 0, .ref h11, .ref h12, .ref h13, .ref h14, .long 0, .int 0, .int 0, .int 0, .int 0, .int 0, .int 0, .int 0, .ref h15, .ref h16])), (h1, .inl (cI, 48, .inl (fun _ => 0))), (h2, .inl (cI, 12, .inl (fun _ => 0))), (h3, .inl (cI, 30, .inl (fun _ => 0))), (h4, .inl (cI, 12, .inl (fun _ => 0))), (h5, .inl (cI, 30, .inl (fun _ => 0))), (h6, .inl (cI, 16, .inl (pgK 5))), (h7, .inl (cI, 16, .inl (fun _ => 0))), (h8, .inl (cI, 224, .inl (fun _ => 0))), (h9, .inl (cI, 32, .inl (fun _ => 0))), (h10, .inl (cZ, 2, .inl (fun _ => 0))), (h11, .inl (cI, 6, .inl (fun _ => 0))), (h12, .inl (cI, 6, .inl (fun _ => 0))), (h13, .inl (cI, 6, .inl (fun _ => 0))), (h14, .inl (cI, 6, .inl (fun _ => 0))), (h15, .inl (cI, 16, .inl (fun _ => 0))), (h16, .inl (cI, 4, .inl (fun _ => 0)))] H := hP
  have hD : va_D (fun q : Nat => s.heap.size ≤ q) [(g0, .inr (6, [.ref o1, .ref o2, .ref o3, .ref o4, .ref o5, .ref o6, .ref o7, .ref o8, .int 0, .int 0, .long 0])), (o1, .inr (5, [.ref r1_1, .int 0])), (r1_1, .inl (cI, 48, .inl (fun _ => 0))), (o2, .inr (0, [.ref r2_1, .ref r2_2, .ref r2_3, .ref r2_4, .int 0])), (r2_1, .inl (cI, 12, .inl (fun _ => 0))), (r2_2, .inl (cI, 5, .inl (fun _ => 0))), (r2_3, .inl (cI, 5, .inl (fun _ => 0))), (r2_4, .inl (cI, 20, .inl (fun _ => 0))), (o3, .inr (2, [.ref r3_1, .ref r3_2, .int 0])), (r3_1, .inl (cI, 4, .inl (fun _ => 0))), (r3_2, .inl (cI, 5, .inl (fillN (fun _ => -9) (fun _ => 0) 5))), (o4, .inr (2, [.ref r4_1, .ref r4_2, .int 0])), (r4_1, .inl (cI, 4, .inl (fun _ => 0))), (r4_2, .inl (cI, 5, .inl (fillN (fun _ => -9) (fun _ => 0) 5))), (o5, .inr (1, [.ref r5_1])), (r5_1, .inl (cI, 4, .inl (fun _ => 0))), (o6, .inr (4, [.int 14, .ref r6_1])), (r6_1, .inl (cI, 140, .inl (fun _ => 0))), (o7, .inr (4, [.int 2, .ref r7_1])), (r7_1, .inl (cI, 20, .inl (fun _ => 0))), (o8, .inr (3, [.ref r8_1, .int 0])), (r8_1, .inl (cI, 24, .inl (fun _ => 0))), (h0, .inr (7, [.int 0, .ref h1, .int 0, .int 0, .ref h2, .int 0, .ref h3, .ref h4, .int 0, .ref h5, .ref h6, .ref h7, .ref h8, .int 0, .ref h9, .ref h10, .int 0, .ref h11, .ref h12, .ref h13, .ref h14, .long 0, .int 0, .int 0, .int 0, .int 0, .int 0, .int 0, .int 0, .ref h15, .ref h16])), (h1, .inl (cI, 48, .inl (fun _ => 0))), (h2, .inl (cI, 12, .inl (fun _ => 0))), (h3, .inl (cI, 30, .inl (fun _ => 0))), (h4, .inl (cI, 12, .inl (fun _ => 0))), (h5, .inl (cI, 30, .inl (fun _ => 0))), (h6, .inl (cI, 16, .inl (pgK 5))), (h7, .inl (cI, 16, .inl (fun _ => 0))), (h8, .inl (cI, 224, .inl (fun _ => 0))), (h9, .inl (cI, 32, .inl (fun _ => 0))), (h10, .inl (cZ, 2, .inl (fun _ => 0))), (h11, .inl (cI, 6, .inl (fun _ => 0))), (h12, .inl (cI, 6, .inl (fun _ => 0))), (h13, .inl (cI, 6, .inl (fun _ => 0))), (h14, .inl (cI, 6, .inl (fun _ => 0))), (h15, .inl (cI, 16, .inl (fun _ => 0))), (h16, .inl (cI, 4, .inl (fun _ => 0)))] := hD
  refine lv_astore_n (lv' := [(2, .ref h0), (1, .ref g0), (0, .ref b)]) hx hb d_Law_law_15 rfl hl (by decide) rfl (fun ls hl => ?_)
  refine lv_iconst (v := 0) hx hb d_Law_law_16 (by decide) ?_
  refine lv_istore_n (lv' := [(3, .int 0), (2, .ref h0), (1, .ref g0), (0, .ref b)]) hx hb d_Law_law_17 rfl hl (by decide) rfl (fun ls hl => ?_)
  have hl : lv_has ls 4 [(3, .int (nI (5 * 0))), (0, .ref b), (1, .ref g0), (2, .ref h0)] := lv_sub hl [0, 3, 2, 1] rfl
  refine W.widen (k := 39) (n := 824) (Nat.le_of_ble_eq_true rfl) (Nat.le_of_ble_eq_true rfl) ?_
  refine law_loop (a := fun k => [g0, o1, r1_1, o2, r2_1, r2_2, r2_3, r2_4, o3, r3_1, r3_2, o4, r4_1, r4_2, o5, r5_1, o6, r6_1, o7, r7_1, o8, r8_1, h0, h1, h2, h3, h4, h5, h6, h7, h8, h9, h10, h11, h12, h13, h14, h15, h16].getD k 0) hC hA hX hbl hbA hL (fun H locs ls hS => ?_) L 0 _ _ _ _ _ (by omega) (by omega) inv0 hP hD hS hl
  refine lv_iconst (v := 1) hx hb d_Law_law_960 (by decide) ?_
  refine W.widen (k := 600000) (n := 7302250) (Nat.le_of_ble_eq_true rfl) (Nat.le_of_ble_eq_true rfl) ?_
  refine va_forget (fun q hq => hS.2.2 q hq) ?_
  exact lw_ret hx hb hr hlocks d_Law_law_961
-- ===== YOUR PART ENDS =====
set_option maxHeartbeats 4000000 in
theorem lw_walk (l : Launch) (hflags : l.flags = flags0) (b : Addr) (xs : List Int32) : MetFree l x (headSpec (Jvm.Cond.code x code maxLocals ret :: tables_1) room_1) (lw_P b xs) (fun _ _ _ _ _ => True) lw_Q := by
  refine MetFree.of_bodyS (code := code) (maxLocals := maxLocals) (ret := ret) (by decide) ?_ ?_
  · intro args s m h hn
    obtain ⟨meth, c, h1, h2, h3, h4, h5, h6, -, -⟩ := Cond.code_spec hn (atoms_spec (ws := Jvm.Cond.code x code maxLocals ret :: tables_1) h _ List.mem_cons_self)
    exact ⟨meth, c, h1, h2, h3, h4, h5, h6⟩
  · intro p e s m args below meth c s₁ B hml0 hP _
    obtain ⟨rfl, hx, hbd, hgv⟩ := hP
    obtain ⟨scr, harrAt, hlist, hof, hsmall⟩ := hx
    obtain ⟨hcb, hkn, -, -⟩ := State.arrayAt?_spec harrAt
    have hown : s.vm.findClass R_law = some m.cls := findClass_of_methodNamed B.named
    have hts0 : ∀ c ∈ (Jvm.Cond.code x code maxLocals ret :: tables_1), c.before #[Value.ref b] s = true := atoms_spec (ws := Jvm.Cond.code x code maxLocals ret :: tables_1) B.pre
    have hts : ∀ w ∈ lw_tbl, w.before #[Value.ref b] s = true := k2_hts_sels lw_privs (fun w hw => hts0 w (List.mem_cons_of_mem _ hw)) lw_privs_ok
    have hml : c.maxLocals = 4 := B.maxLocals_eq (hts0 _ List.mem_cons_self)
    have X₀ : Stand p l e room_1 s m #[Value.ref b] below meth c s₁ [] 0 0 := Stand.of_body B
    have hh0 : s₁.heap = s.heap := by rw [B.state]; rfl
    have hsz : scr.slots.size = xs.length := by rw [← Array.length_toList, hlist, List.length_map]
    have hval : ∀ j : Nat, j < xs.length → scr.slots[j]? = some (.int (xs.getD j 0)) := fun j hj => by
      rw [← Array.getElem?_toList, hlist]
      simp [hj]
    have hbl : b < s.heap.size := (Array.getElem?_eq_some_iff.mp hcb).1
    have hX : va_X b xs.length (fun j => xs.getD j 0) s s.heap := ⟨scr, hcb, hof, hkn, hsz, hval⟩
    have K : W p l e room_1 s m #[Value.ref b] below meth c s₁.heap [] 0 0 (lw_Z below #[Value.ref b] s) (entryFrame m ([Value.ref b] : List Value).toArray 4) := by
      rw [hh0]
      exact whole_start l hflags hbd ⟨B.exec, B.bytes, B.returns, hml, hown, hts, hX, hbl, B.notSynchronized, hgv⟩
    obtain ⟨t, a1, o, b1, b2, b3⟩ := K s₁ rfl X₀
    exact ⟨t, o, a1, b1, b2, b3⟩
theorem lw_pre_spec {args : Array Value} {s : State} (h : (Jvm.Cond.and given_1 narrow_1).before args s = true) (hr : rest_1_c.before args s = true) : ∃ (b : Addr) (xs : List Int32), lw_P b xs args s := by
  have hs := flat_of_before _ h
  have hq := flat_of_before _ hr
  have hc : (Cond.count 1).before args s = true := hs _ (by decide +kernel)
  have harr : (Cond.arrayOf (.arg 0) .int).before args s = true := hs _ (by decide +kernel)
  have hle : (Cond.le (.length (.arg 0)) (.int 320)).before args s = true := hs _ (by decide +kernel)
  have hlen : (Cond.isInt (.length (.arg 0))).before args s = true := hq _ (by decide +kernel)
  have hall : (Cond.all (.arg 0) (.isInt (.elem (.arg 0) (.index 0)))).before args s = true := hq _ (by decide +kernel)
  obtain ⟨b, xs, hb, hx⟩ := State.ints_of_pre rfl harr hlen hall
  have hsm : xs.length < 2 ^ 31 := hx.choose_spec.2.2.2
  have hev : (Term.length (.arg 0)).eval args s none [] s = some (.int xs.length.toInt32) := hx.length_eval hb
  have hv := Cond.le_ints hev (show (Term.int 320).eval args s none [] s = some (.int 320) from rfl)
  have hd : xs.length.toInt32 ≤ 320 := by
    simpa [Cond.before, Cond.holds, hv] using hle
  have hN : xs.length ≤ 320 := (Int32.ofNat_le_ofNat hsm (by decide)).mp (show Int32.ofNat xs.length ≤ Int32.ofNat 320 from hd)
  exact ⟨b, xs, Cond.one_arg hc (show args[0]? = some (.ref b) from hb), hx, hN, h⟩
theorem lw_comes (l : Launch) (hflags : l.flags = flags0) : Comes l x (Jvm.Cond.code x code maxLocals ret :: tables_1) room_1 (fun tb e args s => Calls_1 tb e args s ∧ rest_1 tb e args s ∧ Pre_1 tb e args s)
    (fun _ _ args s o t => lw_Q args s o t) := by
  intro p e ha hc hk s m args below hf hfit hheap happ hpre
  obtain ⟨b, xs, hP⟩ := lw_pre_spec hpre.2.2 hpre.2.1
  obtain ⟨k, o, h1, h2, h3, hQ⟩ := lw_walk l hflags b xs p e ha hc hk s m args below hf ((Spec.applies_iff_loose hf).mp happ).1 hP trivial
  exact ⟨k, o, h1, h2, h3, hQ⟩
theorem lw_frame {s t : State} {o : Outcome} {args : Array Value} (h : Framed s o t [] 600000 7302250) :
    Framed s o t (fieldLocs frame_1_writes args s ++ arrayLocs frame_1_arrays args s ++ staticLocs frame_1_statics s) 600000 7302250 := h
theorem lw_limb (L : Cond) (hL : ∀ (args : Array Value) (s t : State), L.after args s (.returned (some (.int 1))) t = true) :
    ArmFor flags0 classFile x code maxLocals ret World_1 tables_1 room_1 Calls_1 rest_1 Pre_1
      (fun tb e a s o t => postC L tb e a s o t ∧ Framed s o t (fieldLocs frame_1_writes a s ++ arrayLocs frame_1_arrays a s ++ staticLocs frame_1_statics s) 600000 7302250) := by
  intro l hflags _ _ p e ha hc hk s m args below hf hfit hheap happ hpre
  obtain ⟨k, o, h1, h2, h3, rfl, hF⟩ := lw_comes l hflags p e ha hc hk s m args below hf hfit hheap happ hpre
  exact ⟨k, _, h1, h2, h3, hL args s _, lw_frame hF⟩
theorem i_vc : Claimed_1_1 ∧ Claimed_1_2 := ⟨lw_limb limb_1_1 (fun args s t => by simp [limb_1_1, Cond.after, Cond.holds, Cond.value]), lw_limb limb_1_2 (fun args s t => Cond.after_iff.mpr (by
  first | (rw [show limb_1_2 = Cond.eq .result (.int 1) from rfl, Cond.eq_ints (x := 1) (y := 1) rfl rfl]; simp; done) | (simp [limb_1_2, Cond.value, Term.eval]; done)))⟩
