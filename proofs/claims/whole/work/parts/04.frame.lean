/-! The frame: what a method knows of the machine, a contract by worlds before and after, calls. -/
def KK (D : va_G) (cI cZ : ClassId) (U : State) : Prop := va_K D classes [(cI, .int), (cZ, .boolean)] U ∧ NW U
theorem KK.warm {D : va_G} {cI cZ : ClassId} {s U : State} (hW : s.WarmedH U.vm) (h : KK D cI cZ s) : KK D cI cZ U := ⟨va_K.moved hW.alike h.1, NW.warm hW h.2⟩
def Cx (p : Program) (s : State) (m : MethodId) (args : Array Value) (meth : Method) (c : Code) (cc : ByteArray) (nL : Nat) (own : String) (D : va_G) (cI cZ : ClassId) : Prop :=
  p.tables.exec = Jvm.exec ∧ c.code = cc ∧ c.maxLocals = nL ∧ s.vm.findClass own = some m.cls ∧ (∀ w ∈ gt, w.before args s = true) ∧ meth.locks = false ∧ KK D cI cZ s
abbrev rm_ (fr lo : Nat) : Room := { frames := fr, cells := 0, slots := 0, locals := lo }
/-- a contract: from the world w0 (and any beside it) the method comes to w1 and answers r0 -/
def CtI (l : Launch) (y : MethodName) (cc : ByteArray) (maxL : Nat) (ret : Option FieldType) (lev : Nat) (D : va_G) (cI cZ : ClassId) (av : List Value) (w0 : va_W) (r0 : Int32) (w1 : va_W) : Prop :=
  ∀ sz : Nat, Met l y (.code y cc maxL ret :: gt) (rm_ lev (40 * lev)) (va_Pc av (fun U => U.heap.size = sz ∧ va_P D classes w0 U.heap ∧ KK D cI cZ U ∧ va_D (fun _ => True) w0)) (va_Qi (S := Unit) (fun r _ => r = r0) (fun _ t => va_P D classes w1 t.heap ∧ va_D (va_A w0 sz) w1) (va_A w0 sz)) 0 0 (va_A w0 sz)
def CtL (l : Launch) (y : MethodName) (cc : ByteArray) (maxL : Nat) (ret : Option FieldType) (lev : Nat) (D : va_G) (cI cZ : ClassId) (av : List Value) (w0 : va_W) (r0 : Int64) (w1 : va_W) : Prop :=
  ∀ sz : Nat, Met l y (.code y cc maxL ret :: gt) (rm_ lev (40 * lev)) (va_Pc av (fun U => U.heap.size = sz ∧ va_P D classes w0 U.heap ∧ KK D cI cZ U ∧ va_D (fun _ => True) w0)) (va_Ql (S := Unit) (fun r _ => r = r0) (fun _ t => va_P D classes w1 t.heap ∧ va_D (va_A w0 sz) w1) (va_A w0 sz)) 0 0 (va_A w0 sz)
def CtV (l : Launch) (y : MethodName) (cc : ByteArray) (maxL : Nat) (ret : Option FieldType) (lev : Nat) (D : va_G) (cI cZ : ClassId) (av : List Value) (w0 : va_W) (w1 : va_W) : Prop :=
  ∀ sz : Nat, Met l y (.code y cc maxL ret :: gt) (rm_ lev (40 * lev)) (va_Pc av (fun U => U.heap.size = sz ∧ va_P D classes w0 U.heap ∧ KK D cI cZ U ∧ va_D (fun _ => True) w0)) (va_Qv (S := Unit) (fun _ => True) (fun _ t => va_P D classes w1 t.heap ∧ va_D (va_A w0 sz) w1) (va_A w0 sz)) 0 0 (va_A w0 sz)
section MK
variable {l : Launch} {y : MethodName} {cc : ByteArray} {maxL : Nat} {lev : Nat} {D : va_G} {cI cZ : ClassId} {av : List Value} {w0 w1 : va_W}
theorem CtI_mk {ret : FieldType} {r0 : Int32} (hy : plainName y.cls = true) (hlen : (lg_sl av).length ≤ maxL)
    (body : ∀ (p : Program) (e : Env) (s : State) (m : MethodId) (args : Array Value) (below : List Frame) (meth : Method) (c : Code) (A : Nat → Prop) (Q : State → Prop), Cx p s m args meth c cc maxL y.cls D cI cZ → (∀ q, s.heap.size ≤ q → A q) → va_P D classes w0 s.heap → va_D A w0 →
      (∀ (v : Int32) (w : va_W) (H : Heap) (locs : List Loc) (ls : Array Slot) (pc : Nat), narrow ret (.int v) = .int v → v = r0 → w = w1 → va_P D classes w H → va_D A w → va_S A s.heap H locs → decode cc pc = .ok (.ireturn, 1) → W p l e (rm_ lev (40 * lev)) s m args below meth c H locs 0 0 Q (F0 m pc ls [.int v])) →
      ∀ ls : Array Slot, lv_has ls maxL (lv_args 0 av) → W p l e (rm_ lev (40 * lev)) s m args below meth c s.heap [] 0 0 Q (F0 m 0 ls [])) : CtI l y cc maxL (some ret) lev D cI cZ av w0 r0 w1 := by
  intro sz
  refine Met.ofW (cc := cc) (maxL := maxL) (ret := some ret) hy rfl ?_
  intro p e s m args below meth c s₁ B hml hv
  obtain ⟨rfl, hsz, hP, hK, hD0⟩ := hv
  subst hsz
  have hts := atoms_spec (ws := .code y cc maxL (some ret) :: gt) B.pre
  rw [lg_entry_eq]
  refine body p e s m _ below meth c (va_A w0 s.heap.size) _ ⟨B.exec, B.bytes, hml, findClass_of_methodNamed B.named, fun w hw => hts w (List.mem_cons_of_mem _ hw), B.notSynchronized, hK⟩ (fun q h => Or.inr h) hP hD0.self ?_ _ (lv_entry av hlen)
  intro v w H locs ls pc hret hv hw hP hD hS hd
  subst hv; subst hw
  exact W.zret B.exec B.bytes B.returns hret (fun t ht hW => ⟨⟨v, (), rfl, rfl, by rw [ht]; exact hP, hD⟩, hS.F ht⟩) hS.2.2 hd B.notSynchronized
theorem CtL_mk {r0 : Int64} (hy : plainName y.cls = true) (hlen : (lg_sl av).length ≤ maxL)
    (body : ∀ (p : Program) (e : Env) (s : State) (m : MethodId) (args : Array Value) (below : List Frame) (meth : Method) (c : Code) (A : Nat → Prop) (Q : State → Prop), Cx p s m args meth c cc maxL y.cls D cI cZ → (∀ q, s.heap.size ≤ q → A q) → va_P D classes w0 s.heap → va_D A w0 →
      (∀ (v : Int64) (w : va_W) (H : Heap) (locs : List Loc) (ls : Array Slot) (pc : Nat), v = r0 → w = w1 → va_P D classes w H → va_D A w → va_S A s.heap H locs → decode cc pc = .ok (.lreturn, 1) → W p l e (rm_ lev (40 * lev)) s m args below meth c H locs 0 0 Q (F0 m pc ls [.long v])) →
      ∀ ls : Array Slot, lv_has ls maxL (lv_args 0 av) → W p l e (rm_ lev (40 * lev)) s m args below meth c s.heap [] 0 0 Q (F0 m 0 ls [])) : CtL l y cc maxL (some .long) lev D cI cZ av w0 r0 w1 := by
  intro sz
  refine Met.ofW (cc := cc) (maxL := maxL) (ret := some .long) hy rfl ?_
  intro p e s m args below meth c s₁ B hml hv
  obtain ⟨rfl, hsz, hP, hK, hD0⟩ := hv
  subst hsz
  have hts := atoms_spec (ws := .code y cc maxL (some .long) :: gt) B.pre
  rw [lg_entry_eq]
  refine body p e s m _ below meth c (va_A w0 s.heap.size) _ ⟨B.exec, B.bytes, hml, findClass_of_methodNamed B.named, fun w hw => hts w (List.mem_cons_of_mem _ hw), B.notSynchronized, hK⟩ (fun q h => Or.inr h) hP hD0.self ?_ _ (lv_entry av hlen)
  intro v w H locs ls pc hv hw hP hD hS hd
  subst hv; subst hw
  exact W.lret B.exec B.bytes B.returns (fun t ht hW => ⟨⟨v, (), rfl, rfl, by rw [ht]; exact hP, hD⟩, hS.F ht⟩) hS.2.2 hd B.notSynchronized
theorem CtV_mk (hy : plainName y.cls = true) (hlen : (lg_sl av).length ≤ maxL)
    (body : ∀ (p : Program) (e : Env) (s : State) (m : MethodId) (args : Array Value) (below : List Frame) (meth : Method) (c : Code) (A : Nat → Prop) (Q : State → Prop), Cx p s m args meth c cc maxL y.cls D cI cZ → (∀ q, s.heap.size ≤ q → A q) → va_P D classes w0 s.heap → va_D A w0 →
      (∀ (w : va_W) (H : Heap) (locs : List Loc) (ls : Array Slot) (pc : Nat), w = w1 → va_P D classes w H → va_D A w → va_S A s.heap H locs → decode cc pc = .ok (.return_, 1) → W p l e (rm_ lev (40 * lev)) s m args below meth c H locs 0 0 Q (F0 m pc ls [])) →
      ∀ ls : Array Slot, lv_has ls maxL (lv_args 0 av) → W p l e (rm_ lev (40 * lev)) s m args below meth c s.heap [] 0 0 Q (F0 m 0 ls [])) : CtV l y cc maxL none lev D cI cZ av w0 w1 := by
  intro sz
  refine Met.ofW (cc := cc) (maxL := maxL) (ret := none) hy rfl ?_
  intro p e s m args below meth c s₁ B hml hv
  obtain ⟨rfl, hsz, hP, hK, hD0⟩ := hv
  subst hsz
  have hts := atoms_spec (ws := .code y cc maxL none :: gt) B.pre
  rw [lg_entry_eq]
  refine body p e s m _ below meth c (va_A w0 s.heap.size) _ ⟨B.exec, B.bytes, hml, findClass_of_methodNamed B.named, fun w hw => hts w (List.mem_cons_of_mem _ hw), B.notSynchronized, hK⟩ (fun q h => Or.inr h) hP hD0.self ?_ _ (lv_entry av hlen)
  intro w H locs ls pc hw hP hD hS hd
  subst hw
  exact W.vret B.exec B.bytes B.returns (fun t ht hW => ⟨⟨(), rfl, trivial, by rw [ht]; exact hP, hD⟩, hS.F ht⟩) hS.2.2 hd B.notSynchronized
end MK
/-- what a call of own's entry idx needs of the tables -/
def CwB (own : String) (idx : Nat) (y : MethodName) (cc : ByteArray) (maxL : Nat) (ret : Option FieldType) (n : Nat) : Prop :=
  (Cond.methodLink own idx y ∈ gt) ∧ (Cond.initialized y.cls ∈ gt) ∧ (Cond.code y cc maxL ret ∈ gt) ∧ (y.cls ≠ "java/lang/invoke/MethodHandle" ∧ y.cls ≠ "java/lang/invoke/VarHandle" ∧ (parseMethodDescriptor y.desc).map (fun d => d.parameters.length) = some n)
def CwV (own : String) (idx : Nat) (y : MethodName) (cc : ByteArray) (maxL : Nat) (ret : Option FieldType) (n : Nat) : Prop :=
  CwB own idx y cc maxL ret n ∧ (Cond.instanceMethod y ∈ gt) ∧ (Cond.selects y.cls y y ∈ gt)
def CwS (own : String) (idx : Nat) (y : MethodName) (cc : ByteArray) (maxL : Nat) (ret : Option FieldType) (n : Nat) : Prop :=
  CwB own idx y cc maxL ret n ∧ (Cond.static y ∈ gt)
def CwSN (own : String) (idx : Nat) (y : MethodName) (cc : ByteArray) (maxL : Nat) (ret : Option FieldType) (n : Nat) : Prop :=
  (Cond.methodLinkNest own idx y R_PR ∈ nwl) ∧ (Cond.initialized y.cls ∈ gt) ∧ (Cond.code y cc maxL ret ∈ gt) ∧ (y.cls ≠ "java/lang/invoke/MethodHandle" ∧ y.cls ≠ "java/lang/invoke/VarHandle" ∧ (parseMethodDescriptor y.desc).map (fun d => d.parameters.length) = some n) ∧ (Cond.static y ∈ gt)
section CALLS
variable {p : Program} {l : Launch} {e : Env} {R : Room} {s : State} {m : MethodId} {args : Array Value} {below : List Frame} {meth : Method} {c : Code} {H : Heap} {locs : List Loc} {cells slots : Nat} {Q : State → Prop}
variable {cc : ByteArray} {nL : Nat} {own : String} {D : va_G} {cI cZ : ClassId} {pc : Nat} {ls : Array Slot} {A : Nat → Prop} {ws : va_W} {y : MethodName} {ccy : ByteArray} {maxLy : Nat} {ret : Option FieldType} {n idx lev : Nat}
theorem gt_pay (hts : ∀ w ∈ gt, w.before args s = true) (hc : Cond.code y ccy maxLy ret ∈ gt) : ∀ w ∈ (Cond.code y ccy maxLy ret :: gt), ∀ (a' : Array Value) (U : State), s.WarmedH U.vm → w.before a' U = true := by
  intro w hw a' U hW
  rcases List.mem_cons.mp hw with rfl | hw
  · exact word_at hW (gt_good hc) (hts _ hc)
  · exact word_at hW (gt_good hw) (hts _ hw)
theorem CwB.to (h : CwB own idx y ccy maxLy ret n) (hts : ∀ w ∈ gt, w.before args s = true) (hR : lev + 1 ≤ R.frames ∧ 8 + (maxLy + 11) + 40 * lev ≤ R.locals) : CallB R s args own idx y ccy maxLy ret (.code y ccy maxLy ret :: gt) (rm_ lev (40 * lev)) 0 0 n := by
  obtain ⟨h1, h2, h3, h4, h5, h6⟩ := h
  refine ⟨rfl, rfl, hR.1, hR.2, gt_pay hts h3, List.mem_cons_self, hts _ h3, hts _ h2, ⟨h4, h5⟩, fun sig h => ?_, hts _ h1⟩
  rw [h] at h6
  exact (Option.some.inj h6).symm
theorem CwSN.to (h : CwSN own idx y ccy maxLy ret n) (hts : ∀ w ∈ gt, w.before args s = true) (hN : NW s) (hR : lev + 1 ≤ R.frames ∧ 8 + (maxLy + 11) + 40 * lev ≤ R.locals) : va_CN R s args own idx y R_PR ccy maxLy ret (.code y ccy maxLy ret :: gt) (rm_ lev (40 * lev)) 0 0 n ∧ (Cond.static y).before args s = true ∧ True := by
  obtain ⟨h1, h2, h3, ⟨h4, h5, h6⟩, h7⟩ := h
  refine ⟨⟨⟨rfl, rfl, hR.1, hR.2, gt_pay hts h3, List.mem_cons_self⟩, hts _ h3, hts _ h2, ⟨h4, h5⟩, fun sig h => ?_, va_Nw.use rfl (hN _ h1)⟩, hts _ h7, trivial⟩
  rw [h] at h6
  exact (Option.some.inj h6).symm
theorem blind_ {av : List Value} {sz : Nat} {w0 : va_W} : FrameBlind (va_Pc av (fun U => U.heap.size = sz ∧ va_P D classes w0 U.heap ∧ KK D cI cZ U ∧ va_D (fun _ => True) w0)) := by
  intro a U g mk q
  obtain ⟨q0, q1, qP, qK, qD⟩ := q
  exact ⟨q0, q1, qP, ⟨va_K.moved (u := U) (U := U.calling g mk a) (Vm.Alike.refl U.vm) qK.1, fun w hw => va_Nw.same (u := U) (U := U.calling g mk a) (by
    have h2 := (List.mem_filter.mp hw).2
    cases w <;> first | rfl | exact absurd h2 (by simp [nw_is])) rfl (qK.2 w hw)⟩, qD⟩
theorem fm_of {α β : Type} {f : α → Option β} {l : List α} {w : List β} (h : l.map f = w.map some) : l.filterMap f = w := by
  have h1 : (l.map f).filterMap id = (w.map some).filterMap id := by rw [h]
  rw [List.filterMap_map, List.filterMap_map] at h1
  simpa using h1
/-- the callee's cells out of the caller's, the rest, and the new world in its order -/
def Cut (ws wc wr w1 wn : va_W) (isC isR isP : List Nat) : Prop :=
  isC.map (fun i => ws[i]?) = wc.map some ∧ isR.map (fun i => ws[i]?) = wr.map some ∧ va_nd isR = true ∧ (∀ i ∈ isR, i ∉ isC) ∧ va_nd isP = true ∧ isP.map (fun i => (wr ++ w1)[i]?) = wn.map some
theorem Cut_mk {ws wc wr w1 wn : va_W} {isC isR isP : List Nat} (h1 : isC.map (fun i => ws[i]?) = wc.map some) (h2 : isR.map (fun i => ws[i]?) = wr.map some) (h3 : va_nd isR = true) (h4 : ∀ i ∈ isR, i ∉ isC) (h5 : va_nd isP = true) (h6 : isP.map (fun i => (wr ++ w1)[i]?) = wn.map some) : Cut ws wc wr w1 wn isC isR isP := ⟨h1, h2, h3, h4, h5, h6⟩
variable {wc wr w1 wn : va_W} {isC isR isP : List Nat} {st0 rest : List Value} {av : Array Value}
theorem cut_join (hP : va_P D classes ws H) (hD : va_D A ws) (hS : va_S A s.heap H locs) (hA : ∀ q, s.heap.size ≤ q → A q) (ct : Cut ws wc wr w1 wn isC isR isP) : (∀ q, va_A wc H.size q → A q) ∧ (∀ H1 : Heap, (∀ q : Nat, q < H.size → ¬ va_A wc H.size q → H1[q]? = H[q]?) → va_P D classes w1 H1 → va_D (va_A wc H.size) w1 → va_P D classes wn H1 ∧ va_D A wn) := by
  obtain ⟨h1, h2, h3, h4, h5, h6⟩ := ct
  have hF := va_free (wc := wc) hD hS hA isC h1
  refine ⟨hF, fun H1 hk hP1 hD1 => ?_⟩
  obtain ⟨hP2, hD2⟩ := va_join hP hD isC isR h1 h2 h3 h4 hk hF hP1 hD1
  exact ⟨hP2.sub isP (fm_of h6), hD2.sub isP h5 h6⟩
theorem go_i {r0 : Int32} (hP : va_P D classes ws H) (hD : va_D A ws) (hS : va_S A s.heap H locs) (hA : ∀ q, s.heap.size ≤ q → A q) (ct : Cut ws wc wr w1 wn isC isR isP)
    (hr : va_Run p l e R s m args below meth c H locs cells slots 0 0 (F0 m pc ls st0) rest (va_Qi (S := Unit) (fun r _ => r = r0) (fun _ t => va_P D classes w1 t.heap ∧ va_D (va_A wc H.size) w1) (va_A wc H.size) av) (va_A wc H.size))
    (kk : ∀ (H1 : Heap) (locs1 : List Loc), va_P D classes wn H1 → va_D A wn → va_S A s.heap H1 locs1 → W p l e R s m args below meth c H1 locs1 cells slots Q (F0 m (pc + 3) ls (.int r0 :: rest))) : W p l e R s m args below meth c H locs cells slots Q (F0 m pc ls st0) := by
  obtain ⟨hF, hj⟩ := cut_join hP hD hS hA ct
  refine va_calli hr hS (fun q _ h => hF q h) hF (fun r u t H1 locs1 ht hvm hw hB hz hk hS1 => ?_)
  obtain ⟨hP1, hD1⟩ := hB
  rw [ht] at hP1
  obtain ⟨hP2, hD2⟩ := hj H1 hk hP1 hD1
  subst hw
  exact kk H1 locs1 hP2 hD2 hS1
theorem go_l {r0 : Int64} (hP : va_P D classes ws H) (hD : va_D A ws) (hS : va_S A s.heap H locs) (hA : ∀ q, s.heap.size ≤ q → A q) (ct : Cut ws wc wr w1 wn isC isR isP)
    (hr : va_Run p l e R s m args below meth c H locs cells slots 0 0 (F0 m pc ls st0) rest (va_Ql (S := Unit) (fun r _ => r = r0) (fun _ t => va_P D classes w1 t.heap ∧ va_D (va_A wc H.size) w1) (va_A wc H.size) av) (va_A wc H.size))
    (kk : ∀ (H1 : Heap) (locs1 : List Loc), va_P D classes wn H1 → va_D A wn → va_S A s.heap H1 locs1 → W p l e R s m args below meth c H1 locs1 cells slots Q (F0 m (pc + 3) ls (.long r0 :: rest))) : W p l e R s m args below meth c H locs cells slots Q (F0 m pc ls st0) := by
  obtain ⟨hF, hj⟩ := cut_join hP hD hS hA ct
  refine va_calll hr hS (fun q _ h => hF q h) hF (fun r u t H1 locs1 ht hvm hw hB hz hk hS1 => ?_)
  obtain ⟨hP1, hD1⟩ := hB
  rw [ht] at hP1
  obtain ⟨hP2, hD2⟩ := hj H1 hk hP1 hD1
  subst hw
  exact kk H1 locs1 hP2 hD2 hS1
theorem go_v (hP : va_P D classes ws H) (hD : va_D A ws) (hS : va_S A s.heap H locs) (hA : ∀ q, s.heap.size ≤ q → A q) (ct : Cut ws wc wr w1 wn isC isR isP)
    (hr : va_Run p l e R s m args below meth c H locs cells slots 0 0 (F0 m pc ls st0) rest (va_Qv (S := Unit) (fun _ => True) (fun _ t => va_P D classes w1 t.heap ∧ va_D (va_A wc H.size) w1) (va_A wc H.size) av) (va_A wc H.size))
    (kk : ∀ (H1 : Heap) (locs1 : List Loc), va_P D classes wn H1 → va_D A wn → va_S A s.heap H1 locs1 → W p l e R s m args below meth c H1 locs1 cells slots Q (F0 m (pc + 3) ls rest)) : W p l e R s m args below meth c H locs cells slots Q (F0 m pc ls st0) := by
  obtain ⟨hF, hj⟩ := cut_join hP hD hS hA ct
  refine va_callv hr hS (fun q _ h => hF q h) hF (fun u t H1 locs1 ht hvm hw hB hz hk hS1 => ?_)
  obtain ⟨hP1, hD1⟩ := hB
  rw [ht] at hP1
  obtain ⟨hP2, hD2⟩ := hj H1 hk hP1 hD1
  exact kk H1 locs1 hP2 hD2 hS1
/-- the premises of a call's start, out of the cut -/
theorem pre_ (hC : Cx p s m args meth c cc nL own D cI cZ) (hP : va_P D classes ws H) (hD : va_D A ws) (ct : Cut ws wc wr w1 wn isC isR isP) (hnd : va_nd isC = true) (As : List Value) : ∀ U : State, U.heap = H → s.WarmedH U.vm → va_Pc As (fun U => U.heap.size = H.size ∧ va_P D classes wc U.heap ∧ KK D cI cZ U ∧ va_D (fun _ => True) wc) As.toArray U := by
  intro U hU hW
  obtain ⟨h1, -⟩ := ct
  exact ⟨rfl, by rw [hU], by rw [hU]; exact hP.sub isC (fm_of h1), KK.warm hW hC.2.2.2.2.2.2, (hD.sub isC hnd h1).weaken (fun _ _ _ _ => trivial)⟩
variable {b : Addr} {As : List Value}
theorem recv_ {ci q0 : Nat} {fs : List Value} {q : vw_C} (hC : Cx p s m args meth c cc nL own D cI cZ) (hP : va_P D classes ws H) (hq : ws[q0]? = some (b, .inr (ci, fs))) (hcl : classes[ci]? = some q) (hy : y.cls = q.1) : ∃ cellB : Cell, H[b]? = some cellB ∧ cellB.vm.isStatics = false ∧ s.vm.findClass y.cls = some cellB.cls := by
  rw [hy]
  exact va_recv hC.2.2.2.2.2.2.1 hP hcl hq
/-- a call of an object's method that answers an int -/
theorem cVi {r0 : Int32} (hM : CtI l y ccy maxLy ret lev D cI cZ (.ref b :: As) wc r0 w1) (hC : Cx p s m args meth c cc nL own D cI cZ) (hA : ∀ q, s.heap.size ≤ q → A q) (hP : va_P D classes ws H) (hD : va_D A ws) (hS : va_S A s.heap H locs) (hls : ls.size = nL) (hW : CwV own idx y ccy maxLy ret n) {ci : Nat} {fs : List Value} {q : vw_C} (q0 : Nat) (hq : ws[q0]? = some (b, .inr (ci, fs))) (hcl : classes[ci]? = some q) (hy : y.cls = q.1)
    (hR : lev + 1 ≤ R.frames ∧ 8 + (maxLy + 11) + 40 * lev ≤ R.locals) (hn : As.length = n) (hst : st0 = As.reverse ++ .ref b :: rest) (hcat : (rest.map fun v => v.category).sum ≤ 8) (hdg : decode cc pc = .ok (.invokevirtual idx, 3)) (hf : cells ≤ R.cells ∧ slots ≤ R.slots) (isC isR isP : List Nat) (hnd : va_nd isC = true) (ct : Cut ws wc wr w1 wn isC isR isP)
    (kk : ∀ (H1 : Heap) (locs1 : List Loc), va_P D classes wn H1 → va_D A wn → va_S A s.heap H1 locs1 → W p l e R s m args below meth c H1 locs1 cells slots Q (F0 m (pc + 3) ls (.int r0 :: rest))) : W p l e R s m args below meth c H locs cells slots Q (F0 m pc ls st0) :=
  go_i hP hD hS hA ct (va_runV (As := As) (rest := rest) (C := y.cls) ⟨hC.1, hC.2.1, hC.2.2.1, hC.2.2.2.1, hC.2.2.2.2.1⟩ (hM H.size) ⟨hW.1.to hC.2.2.2.2.1 hR, hC.2.2.2.2.1 _ hW.2.1, hC.2.2.2.2.1 _ hW.2.2⟩ ⟨blind_, recv_ hC hP hq hcl hy, pre_ hC hP hD ct hnd _⟩ rfl hn hls hst (lv_room hcat) hdg hf) kk
theorem cVl {r0 : Int64} (hM : CtL l y ccy maxLy ret lev D cI cZ (.ref b :: As) wc r0 w1) (hC : Cx p s m args meth c cc nL own D cI cZ) (hA : ∀ q, s.heap.size ≤ q → A q) (hP : va_P D classes ws H) (hD : va_D A ws) (hS : va_S A s.heap H locs) (hls : ls.size = nL) (hW : CwV own idx y ccy maxLy ret n) {ci : Nat} {fs : List Value} {q : vw_C} (q0 : Nat) (hq : ws[q0]? = some (b, .inr (ci, fs))) (hcl : classes[ci]? = some q) (hy : y.cls = q.1)
    (hR : lev + 1 ≤ R.frames ∧ 8 + (maxLy + 11) + 40 * lev ≤ R.locals) (hn : As.length = n) (hst : st0 = As.reverse ++ .ref b :: rest) (hcat : (rest.map fun v => v.category).sum ≤ 8) (hdg : decode cc pc = .ok (.invokevirtual idx, 3)) (hf : cells ≤ R.cells ∧ slots ≤ R.slots) (isC isR isP : List Nat) (hnd : va_nd isC = true) (ct : Cut ws wc wr w1 wn isC isR isP)
    (kk : ∀ (H1 : Heap) (locs1 : List Loc), va_P D classes wn H1 → va_D A wn → va_S A s.heap H1 locs1 → W p l e R s m args below meth c H1 locs1 cells slots Q (F0 m (pc + 3) ls (.long r0 :: rest))) : W p l e R s m args below meth c H locs cells slots Q (F0 m pc ls st0) :=
  go_l hP hD hS hA ct (va_runV (As := As) (rest := rest) (C := y.cls) ⟨hC.1, hC.2.1, hC.2.2.1, hC.2.2.2.1, hC.2.2.2.2.1⟩ (hM H.size) ⟨hW.1.to hC.2.2.2.2.1 hR, hC.2.2.2.2.1 _ hW.2.1, hC.2.2.2.2.1 _ hW.2.2⟩ ⟨blind_, recv_ hC hP hq hcl hy, pre_ hC hP hD ct hnd _⟩ rfl hn hls hst (lv_room hcat) hdg hf) kk
theorem cVv (hM : CtV l y ccy maxLy ret lev D cI cZ (.ref b :: As) wc w1) (hC : Cx p s m args meth c cc nL own D cI cZ) (hA : ∀ q, s.heap.size ≤ q → A q) (hP : va_P D classes ws H) (hD : va_D A ws) (hS : va_S A s.heap H locs) (hls : ls.size = nL) (hW : CwV own idx y ccy maxLy ret n) {ci : Nat} {fs : List Value} {q : vw_C} (q0 : Nat) (hq : ws[q0]? = some (b, .inr (ci, fs))) (hcl : classes[ci]? = some q) (hy : y.cls = q.1)
    (hR : lev + 1 ≤ R.frames ∧ 8 + (maxLy + 11) + 40 * lev ≤ R.locals) (hn : As.length = n) (hst : st0 = As.reverse ++ .ref b :: rest) (hcat : (rest.map fun v => v.category).sum ≤ 8) (hdg : decode cc pc = .ok (.invokevirtual idx, 3)) (hf : cells ≤ R.cells ∧ slots ≤ R.slots) (isC isR isP : List Nat) (hnd : va_nd isC = true) (ct : Cut ws wc wr w1 wn isC isR isP)
    (kk : ∀ (H1 : Heap) (locs1 : List Loc), va_P D classes wn H1 → va_D A wn → va_S A s.heap H1 locs1 → W p l e R s m args below meth c H1 locs1 cells slots Q (F0 m (pc + 3) ls rest)) : W p l e R s m args below meth c H locs cells slots Q (F0 m pc ls st0) :=
  go_v hP hD hS hA ct (va_runV (As := As) (rest := rest) (C := y.cls) ⟨hC.1, hC.2.1, hC.2.2.1, hC.2.2.2.1, hC.2.2.2.2.1⟩ (hM H.size) ⟨hW.1.to hC.2.2.2.2.1 hR, hC.2.2.2.2.1 _ hW.2.1, hC.2.2.2.2.1 _ hW.2.2⟩ ⟨blind_, recv_ hC hP hq hcl hy, pre_ hC hP hD ct hnd _⟩ rfl hn hls hst (lv_room hcat) hdg hf) kk
theorem cSi {r0 : Int32} (hM : CtI l y ccy maxLy ret lev D cI cZ As wc r0 w1) (hC : Cx p s m args meth c cc nL own D cI cZ) (hA : ∀ q, s.heap.size ≤ q → A q) (hP : va_P D classes ws H) (hD : va_D A ws) (hS : va_S A s.heap H locs) (hls : ls.size = nL) (hW : CwS own idx y ccy maxLy ret n)
    (hR : lev + 1 ≤ R.frames ∧ 8 + (maxLy + 11) + 40 * lev ≤ R.locals) (hn : As.length = n) (hst : st0 = As.reverse ++ rest) (hcat : (rest.map fun v => v.category).sum ≤ 8) (hdg : decode cc pc = .ok (.invokestatic idx, 3)) (hf : cells ≤ R.cells ∧ slots ≤ R.slots) (isC isR isP : List Nat) (hnd : va_nd isC = true) (ct : Cut ws wc wr w1 wn isC isR isP)
    (kk : ∀ (H1 : Heap) (locs1 : List Loc), va_P D classes wn H1 → va_D A wn → va_S A s.heap H1 locs1 → W p l e R s m args below meth c H1 locs1 cells slots Q (F0 m (pc + 3) ls (.int r0 :: rest))) : W p l e R s m args below meth c H locs cells slots Q (F0 m pc ls st0) :=
  go_i hP hD hS hA ct (va_runS (As := As) (rest := rest) ⟨hC.1, hC.2.1, hC.2.2.1, hC.2.2.2.1, hC.2.2.2.2.1⟩ (hM H.size) ⟨hW.1.to hC.2.2.2.2.1 hR, hC.2.2.2.2.1 _ hW.2⟩ ⟨blind_, pre_ hC hP hD ct hnd _⟩ rfl hn hls hst (lv_room hcat) hdg hf) kk
theorem cSv (hM : CtV l y ccy maxLy ret lev D cI cZ As wc w1) (hC : Cx p s m args meth c cc nL own D cI cZ) (hA : ∀ q, s.heap.size ≤ q → A q) (hP : va_P D classes ws H) (hD : va_D A ws) (hS : va_S A s.heap H locs) (hls : ls.size = nL) (hW : CwS own idx y ccy maxLy ret n)
    (hR : lev + 1 ≤ R.frames ∧ 8 + (maxLy + 11) + 40 * lev ≤ R.locals) (hn : As.length = n) (hst : st0 = As.reverse ++ rest) (hcat : (rest.map fun v => v.category).sum ≤ 8) (hdg : decode cc pc = .ok (.invokestatic idx, 3)) (hf : cells ≤ R.cells ∧ slots ≤ R.slots) (isC isR isP : List Nat) (hnd : va_nd isC = true) (ct : Cut ws wc wr w1 wn isC isR isP)
    (kk : ∀ (H1 : Heap) (locs1 : List Loc), va_P D classes wn H1 → va_D A wn → va_S A s.heap H1 locs1 → W p l e R s m args below meth c H1 locs1 cells slots Q (F0 m (pc + 3) ls rest)) : W p l e R s m args below meth c H locs cells slots Q (F0 m pc ls st0) :=
  go_v hP hD hS hA ct (va_runS (As := As) (rest := rest) ⟨hC.1, hC.2.1, hC.2.2.1, hC.2.2.2.1, hC.2.2.2.2.1⟩ (hM H.size) ⟨hW.1.to hC.2.2.2.2.1 hR, hC.2.2.2.2.1 _ hW.2⟩ ⟨blind_, pre_ hC hP hD ct hnd _⟩ rfl hn hls hst (lv_room hcat) hdg hf) kk
theorem pre0 (hC : Cx p s m args meth c cc nL own D cI cZ) (As : List Value) : ∀ U : State, U.heap = H → s.WarmedH U.vm → va_Pc As (fun U => U.heap.size = H.size ∧ va_P D classes [] U.heap ∧ KK D cI cZ U ∧ va_D (fun _ => True) []) As.toArray U := by
  intro U hU hW
  exact ⟨rfl, by rw [hU], fun k q h => by simp at h, KK.warm hW hC.2.2.2.2.2.2, ⟨fun i j p q h => by simp at h, fun k q h => by simp at h⟩⟩
theorem not0 {sz q : Nat} (h : q < sz) : ¬ va_A [] sz q := by
  rintro (⟨k, e, h1⟩ | h1)
  · simp at h1
  · omega
/-- a call of a function without cells -/
theorem go_i0 {r0 : Int32} (hP : va_P D classes ws H) (hD : va_D A ws) (hS : va_S A s.heap H locs) (hA : ∀ q, s.heap.size ≤ q → A q)
    (hr : va_Run p l e R s m args below meth c H locs cells slots 0 0 (F0 m pc ls st0) rest (va_Qi (S := Unit) (fun r _ => r = r0) (fun _ t => va_P D classes [] t.heap ∧ va_D (va_A [] H.size) []) (va_A [] H.size) av) (va_A [] H.size))
    (kk : ∀ (H1 : Heap) (locs1 : List Loc), va_P D classes ws H1 → va_S A s.heap H1 locs1 → W p l e R s m args below meth c H1 locs1 cells slots Q (F0 m (pc + 3) ls (.int r0 :: rest))) : W p l e R s m args below meth c H locs cells slots Q (F0 m pc ls st0) := by
  have hF : ∀ q, va_A [] H.size q → A q := by
    rintro q (⟨k, e, h1⟩ | h1)
    · simp at h1
    · exact hA q (Nat.le_trans hS.1 h1)
  refine va_calli hr hS (fun q _ h => hF q h) hF (fun r u t H1 locs1 ht hvm hw hB hz hk hS1 => ?_)
  subst hw
  exact kk H1 locs1 (hP.kept (fun k q hq => hk q.1 (hP k q hq).lt (not0 (hP k q hq).lt))) hS1
theorem cSi0 {r0 : Int32} (hM : CtI l y ccy maxLy ret lev D cI cZ As [] r0 []) (hC : Cx p s m args meth c cc nL own D cI cZ) (hA : ∀ q, s.heap.size ≤ q → A q) (hP : va_P D classes ws H) (hD : va_D A ws) (hS : va_S A s.heap H locs) (hls : ls.size = nL) (hW : CwS own idx y ccy maxLy ret n)
    (hR : lev + 1 ≤ R.frames ∧ 8 + (maxLy + 11) + 40 * lev ≤ R.locals) (hn : As.length = n) (hst : st0 = As.reverse ++ rest) (hcat : (rest.map fun v => v.category).sum ≤ 8) (hdg : decode cc pc = .ok (.invokestatic idx, 3)) (hf : cells ≤ R.cells ∧ slots ≤ R.slots)
    (kk : ∀ (H1 : Heap) (locs1 : List Loc), va_P D classes ws H1 → va_S A s.heap H1 locs1 → W p l e R s m args below meth c H1 locs1 cells slots Q (F0 m (pc + 3) ls (.int r0 :: rest))) : W p l e R s m args below meth c H locs cells slots Q (F0 m pc ls st0) :=
  go_i0 hP hD hS hA (va_runS (As := As) (rest := rest) ⟨hC.1, hC.2.1, hC.2.2.1, hC.2.2.2.1, hC.2.2.2.2.1⟩ (hM H.size) ⟨hW.1.to hC.2.2.2.2.1 hR, hC.2.2.2.2.1 _ hW.2⟩ ⟨blind_, pre0 hC _⟩ rfl hn hls hst (lv_room hcat) hdg hf) kk
theorem cNi0 {r0 : Int32} (hM : CtI l y ccy maxLy ret lev D cI cZ As [] r0 []) (hC : Cx p s m args meth c cc nL own D cI cZ) (hA : ∀ q, s.heap.size ≤ q → A q) (hP : va_P D classes ws H) (hD : va_D A ws) (hS : va_S A s.heap H locs) (hls : ls.size = nL) (hW : CwSN own idx y ccy maxLy ret n)
    (hR : lev + 1 ≤ R.frames ∧ 8 + (maxLy + 11) + 40 * lev ≤ R.locals) (hn : As.length = n) (hst : st0 = As.reverse ++ rest) (hcat : (rest.map fun v => v.category).sum ≤ 8) (hdg : decode cc pc = .ok (.invokestatic idx, 3)) (hf : cells ≤ R.cells ∧ slots ≤ R.slots)
    (kk : ∀ (H1 : Heap) (locs1 : List Loc), va_P D classes ws H1 → va_S A s.heap H1 locs1 → W p l e R s m args below meth c H1 locs1 cells slots Q (F0 m (pc + 3) ls (.int r0 :: rest))) : W p l e R s m args below meth c H locs cells slots Q (F0 m pc ls st0) :=
  go_i0 hP hD hS hA (va_runSN (As := As) (rest := rest) ⟨hC.1, hC.2.1, hC.2.2.1, hC.2.2.2.1, hC.2.2.2.2.1⟩ (hM H.size) (hW.to hC.2.2.2.2.1 hC.2.2.2.2.2.2.2 hR) ⟨blind_, pre0 hC _⟩ rfl hn hls hst (lv_room hcat) hdg hf) kk
theorem cNi {r0 : Int32} (hM : CtI l y ccy maxLy ret lev D cI cZ As wc r0 w1) (hC : Cx p s m args meth c cc nL own D cI cZ) (hA : ∀ q, s.heap.size ≤ q → A q) (hP : va_P D classes ws H) (hD : va_D A ws) (hS : va_S A s.heap H locs) (hls : ls.size = nL) (hW : CwSN own idx y ccy maxLy ret n)
    (hR : lev + 1 ≤ R.frames ∧ 8 + (maxLy + 11) + 40 * lev ≤ R.locals) (hn : As.length = n) (hst : st0 = As.reverse ++ rest) (hcat : (rest.map fun v => v.category).sum ≤ 8) (hdg : decode cc pc = .ok (.invokestatic idx, 3)) (hf : cells ≤ R.cells ∧ slots ≤ R.slots) (isC isR isP : List Nat) (hnd : va_nd isC = true) (ct : Cut ws wc wr w1 wn isC isR isP)
    (kk : ∀ (H1 : Heap) (locs1 : List Loc), va_P D classes wn H1 → va_D A wn → va_S A s.heap H1 locs1 → W p l e R s m args below meth c H1 locs1 cells slots Q (F0 m (pc + 3) ls (.int r0 :: rest))) : W p l e R s m args below meth c H locs cells slots Q (F0 m pc ls st0) :=
  go_i hP hD hS hA ct (va_runSN (As := As) (rest := rest) ⟨hC.1, hC.2.1, hC.2.2.1, hC.2.2.2.1, hC.2.2.2.2.1⟩ (hM H.size) (hW.to hC.2.2.2.2.1 hC.2.2.2.2.2.2.2 hR) ⟨blind_, pre_ hC hP hD ct hnd _⟩ rfl hn hls hst (lv_room hcat) hdg hf) kk
end CALLS
/-! reading and writing rows, partial functions -/
def inb (i : Int32) (n : Nat) : Bool := !(decide (i < 0) || decide (n ≤ i.toNatClampNeg))
theorem inb_in {i : Int32} {n : Nat} (h : inb i n = true) : vp_in i n := by
  intro h1
  simp [inb] at h
  rcases h1 with h1 | h1
  · exact absurd h1 (Int32.not_lt.mpr h.1)
  · omega
def rd (f : Nat → Int32) (n : Nat) (i : Int32) : Option Int32 := if inb i n = true then some (f i.toNatClampNeg) else none
def wr (f : Nat → Int32) (n : Nat) (i x : Int32) : Option (Nat → Int32) := if inb i n = true then some (upd f i.toNatClampNeg x) else none
def cpy (f g : Nat → Int32) (n0 n1 : Nat) (sp dp k : Int32) : Option (Nat → Int32) :=
  if (¬ sp < 0 ∧ ¬ dp < 0 ∧ ¬ k < 0) ∧ sp.toNatClampNeg + k.toNatClampNeg ≤ n0 ∧ dp.toNatClampNeg + k.toNatClampNeg ≤ n1 then some (va_cpy f g sp.toNatClampNeg dp.toNatClampNeg k.toNatClampNeg) else none
theorem rd_s {f : Nat → Int32} {n : Nat} {i v : Int32} (h : rd f n i = some v) : vp_in i n ∧ f i.toNatClampNeg = v := by
  unfold rd at h
  split at h
  · exact ⟨inb_in (by assumption), Option.some.inj h⟩
  · cases h
theorem wr_s {f g : Nat → Int32} {n : Nat} {i x : Int32} (h : wr f n i x = some g) : vp_in i n ∧ upd f i.toNatClampNeg x = g := by
  unfold wr at h
  split at h
  · exact ⟨inb_in (by assumption), Option.some.inj h⟩
  · cases h
theorem o_bind {α β : Type} {o : Option α} {k : α → Option β} {x : β} (h : o.bind k = some x) : ∃ v, o = some v ∧ k v = some x := by
  cases o with
  | none => cases h
  | some v => exact ⟨v, rfl, h⟩
theorem o_pos {α : Type} {c : Prop} [Decidable c] {a b x : α} (h : c) (hf : ite c a b = x) : a = x := by rw [if_pos h] at hf; exact hf
theorem o_neg {α : Type} {c : Prop} [Decidable c] {a b x : α} (h : ¬ c) (hf : ite c a b = x) : b = x := by rw [if_neg h] at hf; exact hf
theorem o_ite {α : Type} {c : Prop} [Decidable c] {a : Option α} {x : α} (hf : ite c a none = some x) : c ∧ a = some x := by
  by_cases h : c
  · exact ⟨h, o_pos h hf⟩
  · exact absurd (o_neg h hf) (fun h => nomatch h)
theorem o_itn {α : Type} {c : Prop} [Decidable c] {a : Option α} {x : α} (hf : ite c none a = some x) : ¬ c ∧ a = some x := by
  by_cases h : c
  · exact absurd (o_pos h hf) (fun h => nomatch h)
  · exact ⟨h, o_neg h hf⟩
theorem narB {v : Int32} (h : v = 0 ∨ v = 1) : narrow .boolean (.int v) = .int v := by
  rcases h with rfl | rfl <;> rfl
theorem sw_ne {x : Int32} {k : Nat} (hk : k < 2 ^ 31) (h : ¬ x = nI k) : x.toInt ≠ (k : Int) := fun e => h (Int32.toInt_inj.mp (by rw [e, nI_toInt hk]))
section ROWS
variable {p : Program} {l : Launch} {e : Env} {R : Room} {s : State} {m : MethodId} {args : Array Value} {below : List Frame} {meth : Method} {c : Code} {H : Heap} {locs : List Loc} {cells slots : Nat} {Q : State → Prop}
variable {cc : ByteArray} {nL : Nat} {own : String} {D : va_G} {cI cZ : ClassId} {pc : Nat} {ls : Array Slot} {rest : List Value} {A : Nat → Prop} {ws : va_W} {a : Nat}
theorem r_iald (hC : Cx p s m args meth c cc nL own D cI cZ) (hP : va_P D classes ws H) (q0 : Nat) {n : Nat} {f : Nat → Int32} (ha : ws[q0]? = some (a, .inl (cI, n, .inl f))) {i v : Int32} (h : rd f n i = some v) (hdg : decode cc pc = .ok (.iaload, 1))
    (kk : W p l e R s m args below meth c H locs cells slots Q (F0 m (pc + 1) ls (.int v :: rest))) : W p l e R s m args below meth c H locs cells slots Q (F0 m pc ls (.int i :: .ref a :: rest)) := by
  obtain ⟨h1, rfl⟩ := rd_s h
  exact va_iald hC.1 hC.2.1 hC.2.2.2.2.2.2.1 hP q0 0 ha rfl h1 hdg kk
theorem r_zald (hC : Cx p s m args meth c cc nL own D cI cZ) (hP : va_P D classes ws H) (q0 : Nat) {n : Nat} {f : Nat → Int32} (ha : ws[q0]? = some (a, .inl (cZ, n, .inl f))) {i v : Int32} (h : rd f n i = some v) (hdg : decode cc pc = .ok (.baload, 1))
    (kk : W p l e R s m args below meth c H locs cells slots Q (F0 m (pc + 1) ls (.int v :: rest))) : W p l e R s m args below meth c H locs cells slots Q (F0 m pc ls (.int i :: .ref a :: rest)) := by
  obtain ⟨h1, rfl⟩ := rd_s h
  exact va_zald hC.1 hC.2.1 hC.2.2.2.2.2.2.1 hP q0 1 ha rfl h1 hdg kk
theorem r_iast (hC : Cx p s m args meth c cc nL own D cI cZ) (hP : va_P D classes ws H) (hD : va_D A ws) (hS : va_S A s.heap H locs) (q0 : Nat) {n : Nat} {f g : Nat → Int32} (ha : ws[q0]? = some (a, .inl (cI, n, .inl f))) {i x : Int32} (h : wr f n i x = some g) (hdg : decode cc pc = .ok (.iastore, 1))
    (kk : ∀ (H1 : Heap) (locs1 : List Loc), va_P D classes (ws.set q0 (a, .inl (cI, n, .inl g))) H1 → va_D A (ws.set q0 (a, .inl (cI, n, .inl g))) → va_S A s.heap H1 locs1 → W p l e R s m args below meth c H1 locs1 cells slots Q (F0 m (pc + 1) ls rest)) : W p l e R s m args below meth c H locs cells slots Q (F0 m pc ls (.int x :: .int i :: .ref a :: rest)) := by
  obtain ⟨h1, rfl⟩ := wr_s h
  exact va_iast hC.1 hC.2.1 hC.2.2.2.2.2.2.1 hP hD hS q0 0 ha rfl h1 hdg kk
theorem r_zast (hC : Cx p s m args meth c cc nL own D cI cZ) (hP : va_P D classes ws H) (hD : va_D A ws) (hS : va_S A s.heap H locs) (q0 : Nat) {n : Nat} {f g : Nat → Int32} (ha : ws[q0]? = some (a, .inl (cZ, n, .inl f))) {i x : Int32} (hx : vp_nar .boolean x = x) (h : wr f n i x = some g) (hdg : decode cc pc = .ok (.bastore, 1))
    (kk : ∀ (H1 : Heap) (locs1 : List Loc), va_P D classes (ws.set q0 (a, .inl (cZ, n, .inl g))) H1 → va_D A (ws.set q0 (a, .inl (cZ, n, .inl g))) → va_S A s.heap H1 locs1 → W p l e R s m args below meth c H1 locs1 cells slots Q (F0 m (pc + 1) ls rest)) : W p l e R s m args below meth c H locs cells slots Q (F0 m pc ls (.int x :: .int i :: .ref a :: rest)) := by
  obtain ⟨h1, rfl⟩ := wr_s h
  refine va_zast hC.1 hC.2.1 hC.2.2.2.2.2.2.1 hP hD hS q0 1 ha rfl h1 hdg ?_
  rw [hx]
  exact kk
theorem r_alen (hC : Cx p s m args meth c cc nL own D cI cZ) (hP : va_P D classes ws H) (q0 : Nat) {n : Nat} {f : Nat → Int32} (ha : ws[q0]? = some (a, .inl (cI, n, .inl f))) (hdg : decode cc pc = .ok (.arraylength, 1))
    (kk : W p l e R s m args below meth c H locs cells slots Q (F0 m (pc + 1) ls (.int (Int32.ofNat n) :: rest))) : W p l e R s m args below meth c H locs cells slots Q (F0 m pc ls (.ref a :: rest)) :=
  va_alen hC.1 hC.2.1 hC.2.2.2.2.2.2.1 hP q0 0 ha rfl rfl hdg kk
theorem r_copy (hC : Cx p s m args meth c cc nL own D cI cZ) (hP : va_P D classes ws H) (hD : va_D A ws) (hS : va_S A s.heap H locs) (hls : ls.size = nL) {index : Nat} (hlink : Cond.methodLink own index arraycopyName ∈ gt) (hnat : Cond.native arraycopyName ∈ gt) (hstat : Cond.static arraycopyName ∈ gt) (hini : Cond.initialized "java/lang/System" ∈ gt) (q0 q1 : Nat) {a0 n0 n1 : Nat} {f g h : Nat → Int32} (ha0 : ws[q0]? = some (a0, .inl (cI, n0, .inl f))) (ha1 : ws[q1]? = some (a, .inl (cI, n1, .inl g))) {sp dp k : Int32} (hc : cpy f g n0 n1 sp dp k = some h)
    (hframes : 1 ≤ R.frames) (hlocals : (rest.map fun v => v.category).sum + (nativeFrameWords "java/lang/System" "arraycopy" 5 + 11) ≤ R.locals) (hdg : decode cc pc = .ok (.invokestatic index, 3))
    (kk : ∀ (H1 : Heap) (locs1 : List Loc), va_P D classes (ws.set q1 (a, .inl (cI, n1, .inl h))) H1 → va_D A (ws.set q1 (a, .inl (cI, n1, .inl h))) → va_S A s.heap H1 locs1 → W p l e R s m args below meth c H1 locs1 cells slots Q (F0 m (pc + 3) ls rest)) : W p l e R s m args below meth c H locs cells slots Q (F0 m pc ls (.int k :: .int dp :: .ref a :: .int sp :: .ref a0 :: rest)) := by
  unfold cpy at hc
  obtain ⟨⟨⟨h1, h2, h3⟩, h4, h5⟩, hc⟩ := o_ite hc
  cases hc
  exact va_copyi hC.1 hC.2.1 (hC.2.2.1.trans hls.symm) hC.2.2.2.1 (hC.2.2.2.2.1 _ hlink) (hC.2.2.2.2.1 _ hnat) (hC.2.2.2.2.1 _ hstat) (hC.2.2.2.2.1 _ hini) hC.2.2.2.2.2.2.1 hP hD hS q0 q1 0 0 ha0 ha1 rfl rfl rfl h1 h2 h3 h4 h5 (fun i _ => rfl) hframes hlocals hdg kk
end ROWS
