/-! THE CLAIM OUT OF ONE WALK OF THE LAW'S BODY. Your part is whole_start (and what it stands on); all else here is the same for every law, but numbers. -/
def R_law : String := "GearRoadLaw"
def lw_P (b : Addr) (xs : List Int32) (args : Array Value) (s : State) : Prop := args = #[.ref b] ∧ s.IntsAt b xs ∧ xs.length ≤ 3072 ∧ (Jvm.Cond.and given_1 narrow_1).before args s = true
def lw_Q (_ : Array Value) (s : State) (o : Outcome) (t : State) : Prop := o = .returned (some (.int 1)) ∧ Framed s o t [] 600000 7302250
def lw_Z (below : List Frame) (a : Array Value) (s : State) : State → Prop := fun t => ∃ o, t.status = .running ∧ Ended t below o ∧ lw_Q a s o t
/-- the law's own end, with 1 on the stack, nothing written that was there before, its room as the claim has it -/
theorem lw_ret {p : Program} {l : Launch} {e : Env} {s : State} {m : MethodId} {below : List Frame} {meth : Method} {c : Code} {b : Nat} (hx : p.tables.exec = Jvm.exec) (hb : c.code = code) (hr : meth.sig.returnType = ret) (hlocks : meth.locks = false) {pc : Nat} {H : Heap} {ls : Array Slot} (hdg : decode code pc = .ok (.ireturn, 1)) : W p l e room_1 s m #[Value.ref b] below meth c H [] 600000 7302250 (lw_Z below #[Value.ref b] s) (F0 m pc ls [.int 1]) := by
  intro T hT X
  obtain ⟨fs, hret, hrun, hended, hW, hframe⟩ := X.leave (v := some (.int 1)) (hlocks := hlocks) (fun h => by rw [hr] at h; cases h)
  have hmeth' : T.vm.method? m = some meth := X.method'
  refine ⟨T.setFrames fs, ?_, .returned (some (.int 1)), hrun, hended, rfl, ⟨_, rfl⟩, hW, hframe⟩
  jvm_step X.here [X.here.top, hx, hb, hdg, hmeth', hr, ret, narrow_b1]
  (try refine ⟨rfl, ?_⟩); (try refine ⟨rfl, ?_⟩)
  first | (intro acts; rw [hret _ acts rfl rfl rfl]) | rw [hret _ _ rfl rfl rfl]
  exact Steps.refl _
/-- what holds at the law's entry: the machine, the code, the tables' words (any of lw_tbl by 'hts w (by decide +kernel)'), the script of L ints xs at the cell b, what the Statement gives of the start (any of its parts by flat_of_before) -/
def lw_At (p : Program) (s : State) (m : MethodId) (meth : Method) (c : Code) (b L : Nat) (xs : Nat → Int32) : Prop :=
  p.tables.exec = Jvm.exec ∧ c.code = code ∧ meth.sig.returnType = ret ∧ c.maxLocals = 4 ∧ s.vm.findClass R_law = some m.cls ∧ (∀ w ∈ lw_tbl, w.before #[Value.ref b] s = true) ∧ va_X b L xs s s.heap ∧ b < s.heap.size ∧ meth.locks = false ∧ (Jvm.Cond.and given_1 narrow_1).before #[Value.ref b] s = true
/-- the memory as the constructors leave it; the tables, the script and its length -/
def lanes0 : Nat → Int32 := upd (upd (upd (upd (upd (upd (upd (upd (fun _ => 0) (Int32.toNatClampNeg 0) (-1)) (Int32.toNatClampNeg 1) (-1)) (Int32.toNatClampNeg 2) (-1)) (Int32.toNatClampNeg 3) (-1)) (Int32.toNatClampNeg 4) (-1)) (Int32.toNatClampNeg 5) (-1)) (Int32.toNatClampNeg 6) (-1)) (Int32.toNatClampNeg 7) (-1)
def Ms0 : List (Nat → Int32) := [(fun _ => 0), (fun _ => 0), lanes0, (fun _ => 0), (fun _ => 0), (fun _ => 0), (fun _ => 0), (fun _ => 0), (fun _ => 0), (fun _ => 0), (fun _ => 0), (fun _ => 0), (fun _ => 0), (fun _ => 0), (fun _ => 0), (fun _ => 0), (fun _ => 0), (fun _ => 0), (fun _ => 0), (fun _ => 0), (fun _ => 0), (fun _ => 0), (fun _ => 0), (fun _ => 0), (fun _ => 0), (fun _ => 0), (fun _ => 0), (fun _ => 0), (fun _ => 0), (fun _ => 0), (fun _ => 0), (fun _ => 0), (fun _ => 0), (fun _ => 0), (fun _ => 0), (fun _ => 0), (fun _ => 0), (fun _ => 0), (fun _ => 0), (fun _ => 0), lanes0, (fun _ => 0), (fun _ => 0), (fun _ => 0), (fun _ => 0), (fun _ => 0), (fun _ => 0), (fun _ => 0), (fun _ => 0), (fun _ => 0), (fun _ => 0), (fun _ => 0)]
def M_i (L : Nat) (xs : Nat → Int32) : Mm := fun k =>
  if k = 60 then (fun i => (nth [(-1000000), 0, 1, 1, 0, 4] i).getD 0) else if k = 61 then (fun i => (nth [10, 11, 12, 11, 13, 14] i).getD 0) else if k = 62 then (fun i => (nth [20, 21, 24, 22, 23, 23] i).getD 0) else if k = 63 then xs else if k = 64 then (fun _ => Int32.ofNat L) else (nth Ms0 k).getD (fun _ => 0)
def mkad (A : List Nat) (t0 t1 t2 b : Nat) : Nat → Nat := fun k => if k = 60 then t0 else if k = 61 then t1 else if k = 62 then t2 else if k = 63 then b else (nth A k).getD 0
def mkcA (c0 c1 c2 c3 : ClassId) : Nat → ClassId := fun k => if k = 0 then c0 else if k = 1 then c1 else if k = 2 then c2 else c3
theorem inj_of {A : Nat → Prop} {ad : Nat → Nat} {W0 : va_W} (h : W0.map (fun q => q.1) = (List.range 52).map ad) (hD : va_D A W0) : Inj ad := by
  have key : ∀ i, i < 52 → ∃ p, W0[i]? = some p ∧ p.1 = ad i := by
    intro i hi
    have h1 : (W0.map (fun q => q.1))[i]? = some (ad i) := by rw [h]; simp [hi]
    rw [List.getElem?_map] at h1
    cases hw : W0[i]? with
    | none => rw [hw] at h1; cases h1
    | some p => rw [hw] at h1; exact ⟨p, rfl, Option.some.inj h1⟩
  intro i j hi hj e
  obtain ⟨p, h1, h2⟩ := key i hi
  obtain ⟨q, h3, h4⟩ := key j hj
  exact hD.1 i j p q h1 h3 (by rw [h2, h4, e])
theorem all_in {A : Nat → Prop} {ad : Nat → Nat} {W0 : va_W} (h : W0.map (fun q => q.1) = (List.range 52).map ad) (hD : va_D A W0) : ∀ q, AA ad q → A q := by
  rintro q ⟨i, hi, rfl⟩
  have h1 : (W0.map (fun q => q.1))[i]? = some (ad i) := by rw [h]; simp [hi]
  rw [List.getElem?_map] at h1
  cases hw : W0[i]? with
  | none => rw [hw] at h1; cases h1
  | some p =>
    rw [hw] at h1
    have := hD.2 i p hw
    rw [← Option.some.inj h1]
    exact this
/-- two tellings of a row of two references that agree there -/
theorem refs2 {D : va_G} {q : Nat} {c : ClassId} {f g : Nat → Option Nat} {H : Heap} (h0 : f 0 = g 0) (h1 : f 1 = g 1) (h : va_at D clA (q, .inl (c, 2, .inr (.inr (.inr (.inr f))))) H) : va_at D clA (q, .inl (c, 2, .inr (.inr (.inr (.inr g))))) H := by
  have e : vp_cell c (2, .inr (.inr (.inr (.inr f)))) = vp_cell c (2, .inr (.inr (.inr (.inr g)))) := by
    rw [vp_cell_q, vp_cell_q]
    simp only [arrV]
    congr 1
    apply Array.ext
    · simp
    · intro i hi1 hi2
      simp only [Array.size_ofFn] at hi1
      simp only [Array.getElem_ofFn]
      rcases (by omega : i = 0 ∨ i = 1) with rfl | rfl
      · rw [h0]
      · rw [h1]
  show H[q]? = some (vp_cell c _)
  rw [← e]
  exact h
theorem va_P_wd {D : va_G} {W0 W1 : va_W} {H : Heap} (h : va_P D clA W0 H) (hl : ∀ k, ¬ k = 19 → W1[k]? = W0[k]?) {x y : Nat × va_E} (h0 : W0[19]? = some x) (h1 : W1[19]? = some y) (hxy : va_at D clA x H → va_at D clA y H) : va_P D clA W1 H := by
  intro k q hk
  by_cases e : k = 19
  · subst e
    rw [h1] at hk
    cases hk
    exact hxy (h 19 x h0)
  · rw [hl k e] at hk
    exact h k q hk
theorem nestC_on : ∀ w ∈ nestC, w.onTables = true := by decide +kernel
theorem nestC_warm : ∀ w ∈ nestC, ∀ {s U : State}, s.WarmedH U.vm → va_Nw w s → va_Nw w U := by
  intro w hw s U hW h
  simp only [nestC, List.mem_cons, List.not_mem_nil, or_false] at hw
  rcases hw with rfl | rfl | rfl | rfl | rfl | rfl <;> exact va_Nw.warmM hW h
set_option maxHeartbeats 8000000 in
set_option maxRecDepth 200000 in
theorem finish (hpure : ∀ (L : Nat) (xs : Nat → Int32), L ≤ 3072 → ∃ n, lp (D_Law_law_18 (fun r _ => r = 1)) n (0, M_i L xs)) {p : Program} {e : Env} {s : State} {m : MethodId} {below : List Frame} {meth : Method} {c : Code} (l : Launch) {b L : Nat} {xs : Nat → Int32} {dC : Nat → ClassId} {dI : Nat → Nat → Nat} (hL : L ≤ 3072) (hx : p.tables.exec = Jvm.exec) (hb : c.code = code) (hr : meth.sig.returnType = ret) (hml : c.maxLocals = 4) (hown : s.vm.findClass R_law = some m.cls) (hts1 : ∀ w ∈ lw_tbl, w.before #[Value.ref b] s = true) (hX : va_X b L xs s s.heap) (hbl : b < s.heap.size) (hlocks : meth.locks = false) (t60 t61 t62 : Nat) (hZ60 : va_Z "GearRoad" "NEAREST" "[I" (.ref t60) (fun q : Nat => s.heap.size ≤ q) s s.heap) (hZ61 : va_Z "GearRoad" "SIZE_BODIES" "[I" (.ref t61) (fun q : Nat => s.heap.size ≤ q) s s.heap) (hZ62 : va_Z "GearRoad" "MARK_BODIES" "[I" (.ref t62) (fun q : Nat => s.heap.size ≤ q) s s.heap) (hT60 : va_T .int t60 6 (fun i => .int ((nth [(-1000000), 0, 1, 1, 0, 4] i).getD 0)) (fun q : Nat => s.heap.size ≤ q) s s.heap) (hT61 : va_T .int t61 6 (fun i => .int ((nth [10, 11, 12, 11, 13, 14] i).getD 0)) (fun q : Nat => s.heap.size ≤ q) s s.heap) (hT62 : va_T .int t62 6 (fun i => .int ((nth [20, 21, 24, 22, 23, 23] i).getD 0)) (fun q : Nat => s.heap.size ≤ q) s s.heap) (g0 : Nat) (q1_g0 : Nat) (q1_2_g0 : Nat) (q2_2_g0 : Nat) (q3_2_g0 : Nat) (q3_g0 : Nat) (q1_4_g0 : Nat) (q5_g0 : Nat) (q1_6_g0 : Nat) (q2_6_g0 : Nat) (q3_6_g0 : Nat) (q4_6_g0 : Nat) (q5_6_g0 : Nat) (q7_g0 : Nat) (q1_8_g0 : Nat) (q2_8_g0 : Nat) (q3_8_g0 : Nat) (q4_8_g0 : Nat) (q5_8_g0 : Nat) (q9_g0 : Nat) (q10_g0 : Nat) (q1_11_g0 : Nat) (q2_11_g0 : Nat) (q3_11_g0 : Nat) (q4_11_g0 : Nat) (q5_11_g0 : Nat) (q12_g0 : Nat) (q1_13_g0 : Nat) (q2_13_g0 : Nat) (q3_13_g0 : Nat) (q4_13_g0 : Nat) (q5_13_g0 : Nat) (q14_g0 : Nat) (q1_15_g0 : Nat) (q16_g0 : Nat) (q1_17_g0 : Nat) (q2_17_g0 : Nat) (q18_g0 : Nat) (q1_19_g0 : Nat) (m0 : Nat) (q1_m0 : Nat) (q2_m0 : Nat) (q3_m0 : Nat) (q4_m0 : Nat) (q5_m0 : Nat) (q6_m0 : Nat) (q7_m0 : Nat) (q8_m0 : Nat) (q9_m0 : Nat) (q10_m0 : Nat) (q11_m0 : Nat) (q12_m0 : Nat) (c1_2_g0 : ClassId) (c2_2_g0 : ClassId) (c3_2_g0 : ClassId) (c1_4_g0 : ClassId) (c1_6_g0 : ClassId) (c2_6_g0 : ClassId) (c3_6_g0 : ClassId) (c4_6_g0 : ClassId) (c5_6_g0 : ClassId) (c1_8_g0 : ClassId) (c2_8_g0 : ClassId) (c3_8_g0 : ClassId) (c4_8_g0 : ClassId) (c5_8_g0 : ClassId) (c9_g0 : ClassId) (c1_11_g0 : ClassId) (c2_11_g0 : ClassId) (c3_11_g0 : ClassId) (c4_11_g0 : ClassId) (c5_11_g0 : ClassId) (c1_13_g0 : ClassId) (c2_13_g0 : ClassId) (c3_13_g0 : ClassId) (c4_13_g0 : ClassId) (c5_13_g0 : ClassId) (c1_15_g0 : ClassId) (c1_17_g0 : ClassId) (c2_17_g0 : ClassId) (c1_19_g0 : ClassId) (c1_m0 : ClassId) (c2_m0 : ClassId) (c3_m0 : ClassId) (c4_m0 : ClassId) (c5_m0 : ClassId) (c6_m0 : ClassId) (c7_m0 : ClassId) (c8_m0 : ClassId) (c9_m0 : ClassId) (c10_m0 : ClassId) (c11_m0 : ClassId) (c12_m0 : ClassId) (H : Heap) (locs : List Loc) (ls : Array Slot) (hK : va_K (dC, dI) clA [(c1_2_g0, .int), (c2_2_g0, .int), (c3_2_g0, .int), (c1_4_g0, .int), (c1_6_g0, .int), (c2_6_g0, .int), (c3_6_g0, .int), (c4_6_g0, .int), (c5_6_g0, .int), (c1_8_g0, .int), (c2_8_g0, .int), (c3_8_g0, .int), (c4_8_g0, .int), (c5_8_g0, .int), (c9_g0, .object "GearRoad$Bike"), (c1_11_g0, .int), (c2_11_g0, .int), (c3_11_g0, .int), (c4_11_g0, .int), (c5_11_g0, .int), (c1_13_g0, .int), (c2_13_g0, .int), (c3_13_g0, .int), (c4_13_g0, .int), (c5_13_g0, .int), (c1_15_g0, .int), (c1_17_g0, .int), (c2_17_g0, .int), (c1_19_g0, .int), (c1_m0, .int), (c2_m0, .int), (c3_m0, .int), (c4_m0, .int), (c5_m0, .int), (c6_m0, .int), (c7_m0, .int), (c8_m0, .int), (c9_m0, .boolean), (c10_m0, .byte), (c11_m0, .int), (c12_m0, .int)] s) (hP : va_P (dC, dI) clA [(g0, .inr (6, [.ref q1_g0, .ref q3_g0, .ref q5_g0, .ref q7_g0, .ref q9_g0, .ref q14_g0, .ref q16_g0, .ref q18_g0, .int 0, .int 0])), (q1_g0, .inr (3, [.ref q1_2_g0, .ref q2_2_g0, .ref q3_2_g0])), (q1_2_g0, .inl (c1_2_g0, 8, .inl (upd (upd (upd (upd (upd (upd (upd (upd (fun _ => 0) (Int32.toNatClampNeg 0) (-1)) (Int32.toNatClampNeg 1) (-1)) (Int32.toNatClampNeg 2) (-1)) (Int32.toNatClampNeg 3) (-1)) (Int32.toNatClampNeg 4) (-1)) (Int32.toNatClampNeg 5) (-1)) (Int32.toNatClampNeg 6) (-1)) (Int32.toNatClampNeg 7) (-1)))), (q2_2_g0, .inl (c2_2_g0, 8, .inl (fun _ => 0))), (q3_2_g0, .inl (c3_2_g0, 320, .inl (fun _ => 0))), (q3_g0, .inr (4, [.ref q1_4_g0, .int 0, .int 0, .int 0, .int 0])), (q1_4_g0, .inl (c1_4_g0, 80, .inl (fun _ => 0))), (q5_g0, .inr (1, [.int 0, .int 0, .int 0, .int 0, .int 0, .int 0, .int 0, .int 0, .int 0, .ref q1_6_g0, .ref q2_6_g0, .ref q3_6_g0, .ref q4_6_g0, .ref q5_6_g0])), (q1_6_g0, .inl (c1_6_g0, 3, .inl (fun _ => 0))), (q2_6_g0, .inl (c2_6_g0, 6, .inl (fun _ => 0))), (q3_6_g0, .inl (c3_6_g0, 6, .inl (fun _ => 0))), (q4_6_g0, .inl (c4_6_g0, 6, .inl (fun _ => 0))), (q5_6_g0, .inl (c5_6_g0, 6, .inl (fun _ => 0))), (q7_g0, .inr (1, [.int 0, .int 0, .int 0, .int 0, .int 0, .int 0, .int 0, .int 0, .int 0, .ref q1_8_g0, .ref q2_8_g0, .ref q3_8_g0, .ref q4_8_g0, .ref q5_8_g0])), (q1_8_g0, .inl (c1_8_g0, 3, .inl (fun _ => 0))), (q2_8_g0, .inl (c2_8_g0, 6, .inl (fun _ => 0))), (q3_8_g0, .inl (c3_8_g0, 6, .inl (fun _ => 0))), (q4_8_g0, .inl (c4_8_g0, 6, .inl (fun _ => 0))), (q5_8_g0, .inl (c5_8_g0, 6, .inl (fun _ => 0))), (q9_g0, .inl (c9_g0, 2, .inr (.inr (.inr (.inr (va_up (va_up (fun _ => none) (Int32.toNatClampNeg 0) (some q10_g0)) (Int32.toNatClampNeg 1) (some q12_g0))))))), (q10_g0, .inr (1, [.int 0, .int 0, .int 0, .int 0, .int 0, .int 0, .int 0, .int 0, .int 0, .ref q1_11_g0, .ref q2_11_g0, .ref q3_11_g0, .ref q4_11_g0, .ref q5_11_g0])), (q1_11_g0, .inl (c1_11_g0, 3, .inl (fun _ => 0))), (q2_11_g0, .inl (c2_11_g0, 6, .inl (fun _ => 0))), (q3_11_g0, .inl (c3_11_g0, 6, .inl (fun _ => 0))), (q4_11_g0, .inl (c4_11_g0, 6, .inl (fun _ => 0))), (q5_11_g0, .inl (c5_11_g0, 6, .inl (fun _ => 0))), (q12_g0, .inr (1, [.int 0, .int 0, .int 0, .int 0, .int 0, .int 0, .int 0, .int 0, .int 0, .ref q1_13_g0, .ref q2_13_g0, .ref q3_13_g0, .ref q4_13_g0, .ref q5_13_g0])), (q1_13_g0, .inl (c1_13_g0, 3, .inl (fun _ => 0))), (q2_13_g0, .inl (c2_13_g0, 6, .inl (fun _ => 0))), (q3_13_g0, .inl (c3_13_g0, 6, .inl (fun _ => 0))), (q4_13_g0, .inl (c4_13_g0, 6, .inl (fun _ => 0))), (q5_13_g0, .inl (c5_13_g0, 6, .inl (fun _ => 0))), (q14_g0, .inr (0, [.ref q1_15_g0, .int 0, .int 0])), (q1_15_g0, .inl (c1_15_g0, 408, .inl (fun _ => 0))), (q16_g0, .inr (2, [.ref q1_17_g0, .ref q2_17_g0])), (q1_17_g0, .inl (c1_17_g0, 72, .inl (fun _ => 0))), (q2_17_g0, .inl (c2_17_g0, 108, .inl (fun _ => 0))), (q18_g0, .inr (5, [.ref q1_19_g0, .int 0])), (q1_19_g0, .inl (c1_19_g0, 16, .inl (fun _ => 0))), (m0, .inr (7, [.ref q1_m0, .ref q2_m0, .ref q3_m0, .int 0, .ref q4_m0, .int 0, .ref q5_m0, .ref q6_m0, .ref q7_m0, .int 0, .ref q8_m0, .ref q9_m0, .ref q10_m0, .int 0, .int 0, .int 0, .int 0, .int 0, .int 0, .int 0, .ref q11_m0, .ref q12_m0, .int 0])), (q1_m0, .inl (c1_m0, 8, .inl (upd (upd (upd (upd (upd (upd (upd (upd (fun _ => 0) (Int32.toNatClampNeg 0) (-1)) (Int32.toNatClampNeg 1) (-1)) (Int32.toNatClampNeg 2) (-1)) (Int32.toNatClampNeg 3) (-1)) (Int32.toNatClampNeg 4) (-1)) (Int32.toNatClampNeg 5) (-1)) (Int32.toNatClampNeg 6) (-1)) (Int32.toNatClampNeg 7) (-1)))), (q2_m0, .inl (c2_m0, 8, .inl (fun _ => 0))), (q3_m0, .inl (c3_m0, 320, .inl (fun _ => 0))), (q4_m0, .inl (c4_m0, 40, .inl (fun _ => 0))), (q5_m0, .inl (c5_m0, 35, .inl (fun _ => 0))), (q6_m0, .inl (c6_m0, 35, .inl (fun _ => 0))), (q7_m0, .inl (c7_m0, 840, .inl (fun _ => 0))), (q8_m0, .inl (c8_m0, 70, .inl (fun _ => 0))), (q9_m0, .inl (c9_m0, 2, .inl (fun _ => 0))), (q10_m0, .inl (c10_m0, 80, .inl (fun _ => 0))), (q11_m0, .inl (c11_m0, 126, .inl (fun _ => 0))), (q12_m0, .inl (c12_m0, 16, .inl (fun _ => 0)))] H) (hD : va_D (fun q : Nat => s.heap.size ≤ q) [(g0, .inr (6, [.ref q1_g0, .ref q3_g0, .ref q5_g0, .ref q7_g0, .ref q9_g0, .ref q14_g0, .ref q16_g0, .ref q18_g0, .int 0, .int 0])), (q1_g0, .inr (3, [.ref q1_2_g0, .ref q2_2_g0, .ref q3_2_g0])), (q1_2_g0, .inl (c1_2_g0, 8, .inl (upd (upd (upd (upd (upd (upd (upd (upd (fun _ => 0) (Int32.toNatClampNeg 0) (-1)) (Int32.toNatClampNeg 1) (-1)) (Int32.toNatClampNeg 2) (-1)) (Int32.toNatClampNeg 3) (-1)) (Int32.toNatClampNeg 4) (-1)) (Int32.toNatClampNeg 5) (-1)) (Int32.toNatClampNeg 6) (-1)) (Int32.toNatClampNeg 7) (-1)))), (q2_2_g0, .inl (c2_2_g0, 8, .inl (fun _ => 0))), (q3_2_g0, .inl (c3_2_g0, 320, .inl (fun _ => 0))), (q3_g0, .inr (4, [.ref q1_4_g0, .int 0, .int 0, .int 0, .int 0])), (q1_4_g0, .inl (c1_4_g0, 80, .inl (fun _ => 0))), (q5_g0, .inr (1, [.int 0, .int 0, .int 0, .int 0, .int 0, .int 0, .int 0, .int 0, .int 0, .ref q1_6_g0, .ref q2_6_g0, .ref q3_6_g0, .ref q4_6_g0, .ref q5_6_g0])), (q1_6_g0, .inl (c1_6_g0, 3, .inl (fun _ => 0))), (q2_6_g0, .inl (c2_6_g0, 6, .inl (fun _ => 0))), (q3_6_g0, .inl (c3_6_g0, 6, .inl (fun _ => 0))), (q4_6_g0, .inl (c4_6_g0, 6, .inl (fun _ => 0))), (q5_6_g0, .inl (c5_6_g0, 6, .inl (fun _ => 0))), (q7_g0, .inr (1, [.int 0, .int 0, .int 0, .int 0, .int 0, .int 0, .int 0, .int 0, .int 0, .ref q1_8_g0, .ref q2_8_g0, .ref q3_8_g0, .ref q4_8_g0, .ref q5_8_g0])), (q1_8_g0, .inl (c1_8_g0, 3, .inl (fun _ => 0))), (q2_8_g0, .inl (c2_8_g0, 6, .inl (fun _ => 0))), (q3_8_g0, .inl (c3_8_g0, 6, .inl (fun _ => 0))), (q4_8_g0, .inl (c4_8_g0, 6, .inl (fun _ => 0))), (q5_8_g0, .inl (c5_8_g0, 6, .inl (fun _ => 0))), (q9_g0, .inl (c9_g0, 2, .inr (.inr (.inr (.inr (va_up (va_up (fun _ => none) (Int32.toNatClampNeg 0) (some q10_g0)) (Int32.toNatClampNeg 1) (some q12_g0))))))), (q10_g0, .inr (1, [.int 0, .int 0, .int 0, .int 0, .int 0, .int 0, .int 0, .int 0, .int 0, .ref q1_11_g0, .ref q2_11_g0, .ref q3_11_g0, .ref q4_11_g0, .ref q5_11_g0])), (q1_11_g0, .inl (c1_11_g0, 3, .inl (fun _ => 0))), (q2_11_g0, .inl (c2_11_g0, 6, .inl (fun _ => 0))), (q3_11_g0, .inl (c3_11_g0, 6, .inl (fun _ => 0))), (q4_11_g0, .inl (c4_11_g0, 6, .inl (fun _ => 0))), (q5_11_g0, .inl (c5_11_g0, 6, .inl (fun _ => 0))), (q12_g0, .inr (1, [.int 0, .int 0, .int 0, .int 0, .int 0, .int 0, .int 0, .int 0, .int 0, .ref q1_13_g0, .ref q2_13_g0, .ref q3_13_g0, .ref q4_13_g0, .ref q5_13_g0])), (q1_13_g0, .inl (c1_13_g0, 3, .inl (fun _ => 0))), (q2_13_g0, .inl (c2_13_g0, 6, .inl (fun _ => 0))), (q3_13_g0, .inl (c3_13_g0, 6, .inl (fun _ => 0))), (q4_13_g0, .inl (c4_13_g0, 6, .inl (fun _ => 0))), (q5_13_g0, .inl (c5_13_g0, 6, .inl (fun _ => 0))), (q14_g0, .inr (0, [.ref q1_15_g0, .int 0, .int 0])), (q1_15_g0, .inl (c1_15_g0, 408, .inl (fun _ => 0))), (q16_g0, .inr (2, [.ref q1_17_g0, .ref q2_17_g0])), (q1_17_g0, .inl (c1_17_g0, 72, .inl (fun _ => 0))), (q2_17_g0, .inl (c2_17_g0, 108, .inl (fun _ => 0))), (q18_g0, .inr (5, [.ref q1_19_g0, .int 0])), (q1_19_g0, .inl (c1_19_g0, 16, .inl (fun _ => 0))), (m0, .inr (7, [.ref q1_m0, .ref q2_m0, .ref q3_m0, .int 0, .ref q4_m0, .int 0, .ref q5_m0, .ref q6_m0, .ref q7_m0, .int 0, .ref q8_m0, .ref q9_m0, .ref q10_m0, .int 0, .int 0, .int 0, .int 0, .int 0, .int 0, .int 0, .ref q11_m0, .ref q12_m0, .int 0])), (q1_m0, .inl (c1_m0, 8, .inl (upd (upd (upd (upd (upd (upd (upd (upd (fun _ => 0) (Int32.toNatClampNeg 0) (-1)) (Int32.toNatClampNeg 1) (-1)) (Int32.toNatClampNeg 2) (-1)) (Int32.toNatClampNeg 3) (-1)) (Int32.toNatClampNeg 4) (-1)) (Int32.toNatClampNeg 5) (-1)) (Int32.toNatClampNeg 6) (-1)) (Int32.toNatClampNeg 7) (-1)))), (q2_m0, .inl (c2_m0, 8, .inl (fun _ => 0))), (q3_m0, .inl (c3_m0, 320, .inl (fun _ => 0))), (q4_m0, .inl (c4_m0, 40, .inl (fun _ => 0))), (q5_m0, .inl (c5_m0, 35, .inl (fun _ => 0))), (q6_m0, .inl (c6_m0, 35, .inl (fun _ => 0))), (q7_m0, .inl (c7_m0, 840, .inl (fun _ => 0))), (q8_m0, .inl (c8_m0, 70, .inl (fun _ => 0))), (q9_m0, .inl (c9_m0, 2, .inl (fun _ => 0))), (q10_m0, .inl (c10_m0, 80, .inl (fun _ => 0))), (q11_m0, .inl (c11_m0, 126, .inl (fun _ => 0))), (q12_m0, .inl (c12_m0, 16, .inl (fun _ => 0)))]) (hS : va_S (fun q : Nat => s.heap.size ≤ q) s.heap H locs) (hl : lv_has ls 4 [(3, .int 0), (2, .ref m0), (1, .ref g0), (0, .ref b)]) : W p l e room_1 s m #[Value.ref b] below meth c H locs 52 2814 (lw_Z below #[Value.ref b] s) (F0 m 18 ls []) := by
  have hts : ∀ w ∈ tbG, w.before #[Value.ref b] s = true := fun w h => hts1 w (tbG_in w h)
  have hcl0 : s.vm.findClass ("[" ++ (.int : FieldType).toString) = some c1_2_g0 := (hK.2 0 _ rfl).2
  obtain rfl : c1_2_g0 = c2_2_g0 := Option.some.inj (hcl0.symm.trans ((hK.2 1 _ rfl).2 : s.vm.findClass ("[" ++ (.int : FieldType).toString) = some c2_2_g0))
  obtain rfl : c1_2_g0 = c3_2_g0 := Option.some.inj (hcl0.symm.trans ((hK.2 2 _ rfl).2 : s.vm.findClass ("[" ++ (.int : FieldType).toString) = some c3_2_g0))
  obtain rfl : c1_2_g0 = c1_4_g0 := Option.some.inj (hcl0.symm.trans ((hK.2 3 _ rfl).2 : s.vm.findClass ("[" ++ (.int : FieldType).toString) = some c1_4_g0))
  obtain rfl : c1_2_g0 = c1_6_g0 := Option.some.inj (hcl0.symm.trans ((hK.2 4 _ rfl).2 : s.vm.findClass ("[" ++ (.int : FieldType).toString) = some c1_6_g0))
  obtain rfl : c1_2_g0 = c2_6_g0 := Option.some.inj (hcl0.symm.trans ((hK.2 5 _ rfl).2 : s.vm.findClass ("[" ++ (.int : FieldType).toString) = some c2_6_g0))
  obtain rfl : c1_2_g0 = c3_6_g0 := Option.some.inj (hcl0.symm.trans ((hK.2 6 _ rfl).2 : s.vm.findClass ("[" ++ (.int : FieldType).toString) = some c3_6_g0))
  obtain rfl : c1_2_g0 = c4_6_g0 := Option.some.inj (hcl0.symm.trans ((hK.2 7 _ rfl).2 : s.vm.findClass ("[" ++ (.int : FieldType).toString) = some c4_6_g0))
  obtain rfl : c1_2_g0 = c5_6_g0 := Option.some.inj (hcl0.symm.trans ((hK.2 8 _ rfl).2 : s.vm.findClass ("[" ++ (.int : FieldType).toString) = some c5_6_g0))
  obtain rfl : c1_2_g0 = c1_8_g0 := Option.some.inj (hcl0.symm.trans ((hK.2 9 _ rfl).2 : s.vm.findClass ("[" ++ (.int : FieldType).toString) = some c1_8_g0))
  obtain rfl : c1_2_g0 = c2_8_g0 := Option.some.inj (hcl0.symm.trans ((hK.2 10 _ rfl).2 : s.vm.findClass ("[" ++ (.int : FieldType).toString) = some c2_8_g0))
  obtain rfl : c1_2_g0 = c3_8_g0 := Option.some.inj (hcl0.symm.trans ((hK.2 11 _ rfl).2 : s.vm.findClass ("[" ++ (.int : FieldType).toString) = some c3_8_g0))
  obtain rfl : c1_2_g0 = c4_8_g0 := Option.some.inj (hcl0.symm.trans ((hK.2 12 _ rfl).2 : s.vm.findClass ("[" ++ (.int : FieldType).toString) = some c4_8_g0))
  obtain rfl : c1_2_g0 = c5_8_g0 := Option.some.inj (hcl0.symm.trans ((hK.2 13 _ rfl).2 : s.vm.findClass ("[" ++ (.int : FieldType).toString) = some c5_8_g0))
  obtain rfl : c1_2_g0 = c1_11_g0 := Option.some.inj (hcl0.symm.trans ((hK.2 15 _ rfl).2 : s.vm.findClass ("[" ++ (.int : FieldType).toString) = some c1_11_g0))
  obtain rfl : c1_2_g0 = c2_11_g0 := Option.some.inj (hcl0.symm.trans ((hK.2 16 _ rfl).2 : s.vm.findClass ("[" ++ (.int : FieldType).toString) = some c2_11_g0))
  obtain rfl : c1_2_g0 = c3_11_g0 := Option.some.inj (hcl0.symm.trans ((hK.2 17 _ rfl).2 : s.vm.findClass ("[" ++ (.int : FieldType).toString) = some c3_11_g0))
  obtain rfl : c1_2_g0 = c4_11_g0 := Option.some.inj (hcl0.symm.trans ((hK.2 18 _ rfl).2 : s.vm.findClass ("[" ++ (.int : FieldType).toString) = some c4_11_g0))
  obtain rfl : c1_2_g0 = c5_11_g0 := Option.some.inj (hcl0.symm.trans ((hK.2 19 _ rfl).2 : s.vm.findClass ("[" ++ (.int : FieldType).toString) = some c5_11_g0))
  obtain rfl : c1_2_g0 = c1_13_g0 := Option.some.inj (hcl0.symm.trans ((hK.2 20 _ rfl).2 : s.vm.findClass ("[" ++ (.int : FieldType).toString) = some c1_13_g0))
  obtain rfl : c1_2_g0 = c2_13_g0 := Option.some.inj (hcl0.symm.trans ((hK.2 21 _ rfl).2 : s.vm.findClass ("[" ++ (.int : FieldType).toString) = some c2_13_g0))
  obtain rfl : c1_2_g0 = c3_13_g0 := Option.some.inj (hcl0.symm.trans ((hK.2 22 _ rfl).2 : s.vm.findClass ("[" ++ (.int : FieldType).toString) = some c3_13_g0))
  obtain rfl : c1_2_g0 = c4_13_g0 := Option.some.inj (hcl0.symm.trans ((hK.2 23 _ rfl).2 : s.vm.findClass ("[" ++ (.int : FieldType).toString) = some c4_13_g0))
  obtain rfl : c1_2_g0 = c5_13_g0 := Option.some.inj (hcl0.symm.trans ((hK.2 24 _ rfl).2 : s.vm.findClass ("[" ++ (.int : FieldType).toString) = some c5_13_g0))
  obtain rfl : c1_2_g0 = c1_15_g0 := Option.some.inj (hcl0.symm.trans ((hK.2 25 _ rfl).2 : s.vm.findClass ("[" ++ (.int : FieldType).toString) = some c1_15_g0))
  obtain rfl : c1_2_g0 = c1_17_g0 := Option.some.inj (hcl0.symm.trans ((hK.2 26 _ rfl).2 : s.vm.findClass ("[" ++ (.int : FieldType).toString) = some c1_17_g0))
  obtain rfl : c1_2_g0 = c2_17_g0 := Option.some.inj (hcl0.symm.trans ((hK.2 27 _ rfl).2 : s.vm.findClass ("[" ++ (.int : FieldType).toString) = some c2_17_g0))
  obtain rfl : c1_2_g0 = c1_19_g0 := Option.some.inj (hcl0.symm.trans ((hK.2 28 _ rfl).2 : s.vm.findClass ("[" ++ (.int : FieldType).toString) = some c1_19_g0))
  obtain rfl : c1_2_g0 = c1_m0 := Option.some.inj (hcl0.symm.trans ((hK.2 29 _ rfl).2 : s.vm.findClass ("[" ++ (.int : FieldType).toString) = some c1_m0))
  obtain rfl : c1_2_g0 = c2_m0 := Option.some.inj (hcl0.symm.trans ((hK.2 30 _ rfl).2 : s.vm.findClass ("[" ++ (.int : FieldType).toString) = some c2_m0))
  obtain rfl : c1_2_g0 = c3_m0 := Option.some.inj (hcl0.symm.trans ((hK.2 31 _ rfl).2 : s.vm.findClass ("[" ++ (.int : FieldType).toString) = some c3_m0))
  obtain rfl : c1_2_g0 = c4_m0 := Option.some.inj (hcl0.symm.trans ((hK.2 32 _ rfl).2 : s.vm.findClass ("[" ++ (.int : FieldType).toString) = some c4_m0))
  obtain rfl : c1_2_g0 = c5_m0 := Option.some.inj (hcl0.symm.trans ((hK.2 33 _ rfl).2 : s.vm.findClass ("[" ++ (.int : FieldType).toString) = some c5_m0))
  obtain rfl : c1_2_g0 = c6_m0 := Option.some.inj (hcl0.symm.trans ((hK.2 34 _ rfl).2 : s.vm.findClass ("[" ++ (.int : FieldType).toString) = some c6_m0))
  obtain rfl : c1_2_g0 = c7_m0 := Option.some.inj (hcl0.symm.trans ((hK.2 35 _ rfl).2 : s.vm.findClass ("[" ++ (.int : FieldType).toString) = some c7_m0))
  obtain rfl : c1_2_g0 = c8_m0 := Option.some.inj (hcl0.symm.trans ((hK.2 36 _ rfl).2 : s.vm.findClass ("[" ++ (.int : FieldType).toString) = some c8_m0))
  obtain rfl : c1_2_g0 = c11_m0 := Option.some.inj (hcl0.symm.trans ((hK.2 39 _ rfl).2 : s.vm.findClass ("[" ++ (.int : FieldType).toString) = some c11_m0))
  obtain rfl : c1_2_g0 = c12_m0 := Option.some.inj (hcl0.symm.trans ((hK.2 40 _ rfl).2 : s.vm.findClass ("[" ++ (.int : FieldType).toString) = some c12_m0))
  have hcl37 : s.vm.findClass ("[" ++ (.boolean : FieldType).toString) = some c9_m0 := (hK.2 37 _ rfl).2
  have hcl38 : s.vm.findClass ("[" ++ (.byte : FieldType).toString) = some c10_m0 := (hK.2 38 _ rfl).2
  have hP0 := hP.sub (ws' := [(g0, .inr (6, [.ref q1_g0, .ref q3_g0, .ref q5_g0, .ref q7_g0, .ref q9_g0, .ref q14_g0, .ref q16_g0, .ref q18_g0, .int 0, .int 0])), (q1_g0, .inr (3, [.ref q1_2_g0, .ref q2_2_g0, .ref q3_2_g0])), (q1_2_g0, .inl (c1_2_g0, 8, .inl (upd (upd (upd (upd (upd (upd (upd (upd (fun _ => 0) (Int32.toNatClampNeg 0) (-1)) (Int32.toNatClampNeg 1) (-1)) (Int32.toNatClampNeg 2) (-1)) (Int32.toNatClampNeg 3) (-1)) (Int32.toNatClampNeg 4) (-1)) (Int32.toNatClampNeg 5) (-1)) (Int32.toNatClampNeg 6) (-1)) (Int32.toNatClampNeg 7) (-1)))), (q2_2_g0, .inl (c1_2_g0, 8, .inl (fun _ => 0))), (q3_2_g0, .inl (c1_2_g0, 320, .inl (fun _ => 0))), (q3_g0, .inr (4, [.ref q1_4_g0, .int 0, .int 0, .int 0, .int 0])), (q1_4_g0, .inl (c1_2_g0, 80, .inl (fun _ => 0))), (q5_g0, .inr (1, [.int 0, .int 0, .int 0, .int 0, .int 0, .int 0, .int 0, .int 0, .int 0, .ref q1_6_g0, .ref q2_6_g0, .ref q3_6_g0, .ref q4_6_g0, .ref q5_6_g0])), (q1_6_g0, .inl (c1_2_g0, 3, .inl (fun _ => 0))), (q2_6_g0, .inl (c1_2_g0, 6, .inl (fun _ => 0))), (q3_6_g0, .inl (c1_2_g0, 6, .inl (fun _ => 0))), (q4_6_g0, .inl (c1_2_g0, 6, .inl (fun _ => 0))), (q5_6_g0, .inl (c1_2_g0, 6, .inl (fun _ => 0))), (q7_g0, .inr (1, [.int 0, .int 0, .int 0, .int 0, .int 0, .int 0, .int 0, .int 0, .int 0, .ref q1_8_g0, .ref q2_8_g0, .ref q3_8_g0, .ref q4_8_g0, .ref q5_8_g0])), (q1_8_g0, .inl (c1_2_g0, 3, .inl (fun _ => 0))), (q2_8_g0, .inl (c1_2_g0, 6, .inl (fun _ => 0))), (q3_8_g0, .inl (c1_2_g0, 6, .inl (fun _ => 0))), (q4_8_g0, .inl (c1_2_g0, 6, .inl (fun _ => 0))), (q5_8_g0, .inl (c1_2_g0, 6, .inl (fun _ => 0))), (q9_g0, .inl (c9_g0, 2, .inr (.inr (.inr (.inr (va_up (va_up (fun _ => none) (Int32.toNatClampNeg 0) (some q10_g0)) (Int32.toNatClampNeg 1) (some q12_g0))))))), (q10_g0, .inr (1, [.int 0, .int 0, .int 0, .int 0, .int 0, .int 0, .int 0, .int 0, .int 0, .ref q1_11_g0, .ref q2_11_g0, .ref q3_11_g0, .ref q4_11_g0, .ref q5_11_g0])), (q1_11_g0, .inl (c1_2_g0, 3, .inl (fun _ => 0))), (q2_11_g0, .inl (c1_2_g0, 6, .inl (fun _ => 0))), (q3_11_g0, .inl (c1_2_g0, 6, .inl (fun _ => 0))), (q4_11_g0, .inl (c1_2_g0, 6, .inl (fun _ => 0))), (q5_11_g0, .inl (c1_2_g0, 6, .inl (fun _ => 0))), (q12_g0, .inr (1, [.int 0, .int 0, .int 0, .int 0, .int 0, .int 0, .int 0, .int 0, .int 0, .ref q1_13_g0, .ref q2_13_g0, .ref q3_13_g0, .ref q4_13_g0, .ref q5_13_g0])), (q1_13_g0, .inl (c1_2_g0, 3, .inl (fun _ => 0))), (q2_13_g0, .inl (c1_2_g0, 6, .inl (fun _ => 0))), (q3_13_g0, .inl (c1_2_g0, 6, .inl (fun _ => 0))), (q4_13_g0, .inl (c1_2_g0, 6, .inl (fun _ => 0))), (q5_13_g0, .inl (c1_2_g0, 6, .inl (fun _ => 0))), (q14_g0, .inr (0, [.ref q1_15_g0, .int 0, .int 0])), (q1_15_g0, .inl (c1_2_g0, 408, .inl (fun _ => 0))), (q16_g0, .inr (2, [.ref q1_17_g0, .ref q2_17_g0])), (q1_17_g0, .inl (c1_2_g0, 72, .inl (fun _ => 0))), (q2_17_g0, .inl (c1_2_g0, 108, .inl (fun _ => 0))), (q18_g0, .inr (5, [.ref q1_19_g0, .int 0])), (q1_19_g0, .inl (c1_2_g0, 16, .inl (fun _ => 0))), (m0, .inr (7, [.ref q1_m0, .ref q2_m0, .ref q3_m0, .int 0, .ref q4_m0, .int 0, .ref q5_m0, .ref q6_m0, .ref q7_m0, .int 0, .ref q8_m0, .ref q9_m0, .ref q10_m0, .int 0, .int 0, .int 0, .int 0, .int 0, .int 0, .int 0, .ref q11_m0, .ref q12_m0, .int 0])), (q1_m0, .inl (c1_2_g0, 8, .inl (upd (upd (upd (upd (upd (upd (upd (upd (fun _ => 0) (Int32.toNatClampNeg 0) (-1)) (Int32.toNatClampNeg 1) (-1)) (Int32.toNatClampNeg 2) (-1)) (Int32.toNatClampNeg 3) (-1)) (Int32.toNatClampNeg 4) (-1)) (Int32.toNatClampNeg 5) (-1)) (Int32.toNatClampNeg 6) (-1)) (Int32.toNatClampNeg 7) (-1)))), (q2_m0, .inl (c1_2_g0, 8, .inl (fun _ => 0))), (q3_m0, .inl (c1_2_g0, 320, .inl (fun _ => 0))), (q4_m0, .inl (c1_2_g0, 40, .inl (fun _ => 0))), (q5_m0, .inl (c1_2_g0, 35, .inl (fun _ => 0))), (q6_m0, .inl (c1_2_g0, 35, .inl (fun _ => 0))), (q7_m0, .inl (c1_2_g0, 840, .inl (fun _ => 0))), (q8_m0, .inl (c1_2_g0, 70, .inl (fun _ => 0))), (q9_m0, .inl (c9_m0, 2, .inl (fun _ => 0))), (q10_m0, .inl (c10_m0, 80, .inl (fun _ => 0))), (q11_m0, .inl (c1_2_g0, 126, .inl (fun _ => 0))), (q12_m0, .inl (c1_2_g0, 16, .inl (fun _ => 0)))]) [0, 1, 2, 3, 4, 5, 6, 7, 8, 9, 10, 11, 12, 13, 14, 15, 16, 17, 18, 19, 20, 21, 22, 23, 24, 25, 26, 27, 28, 29, 30, 31, 32, 33, 34, 35, 36, 37, 38, 39, 40, 41, 42, 43, 44, 45, 46, 47, 48, 49, 50, 51] rfl
  have hD0 := hD.sub (ws' := [(g0, .inr (6, [.ref q1_g0, .ref q3_g0, .ref q5_g0, .ref q7_g0, .ref q9_g0, .ref q14_g0, .ref q16_g0, .ref q18_g0, .int 0, .int 0])), (q1_g0, .inr (3, [.ref q1_2_g0, .ref q2_2_g0, .ref q3_2_g0])), (q1_2_g0, .inl (c1_2_g0, 8, .inl (upd (upd (upd (upd (upd (upd (upd (upd (fun _ => 0) (Int32.toNatClampNeg 0) (-1)) (Int32.toNatClampNeg 1) (-1)) (Int32.toNatClampNeg 2) (-1)) (Int32.toNatClampNeg 3) (-1)) (Int32.toNatClampNeg 4) (-1)) (Int32.toNatClampNeg 5) (-1)) (Int32.toNatClampNeg 6) (-1)) (Int32.toNatClampNeg 7) (-1)))), (q2_2_g0, .inl (c1_2_g0, 8, .inl (fun _ => 0))), (q3_2_g0, .inl (c1_2_g0, 320, .inl (fun _ => 0))), (q3_g0, .inr (4, [.ref q1_4_g0, .int 0, .int 0, .int 0, .int 0])), (q1_4_g0, .inl (c1_2_g0, 80, .inl (fun _ => 0))), (q5_g0, .inr (1, [.int 0, .int 0, .int 0, .int 0, .int 0, .int 0, .int 0, .int 0, .int 0, .ref q1_6_g0, .ref q2_6_g0, .ref q3_6_g0, .ref q4_6_g0, .ref q5_6_g0])), (q1_6_g0, .inl (c1_2_g0, 3, .inl (fun _ => 0))), (q2_6_g0, .inl (c1_2_g0, 6, .inl (fun _ => 0))), (q3_6_g0, .inl (c1_2_g0, 6, .inl (fun _ => 0))), (q4_6_g0, .inl (c1_2_g0, 6, .inl (fun _ => 0))), (q5_6_g0, .inl (c1_2_g0, 6, .inl (fun _ => 0))), (q7_g0, .inr (1, [.int 0, .int 0, .int 0, .int 0, .int 0, .int 0, .int 0, .int 0, .int 0, .ref q1_8_g0, .ref q2_8_g0, .ref q3_8_g0, .ref q4_8_g0, .ref q5_8_g0])), (q1_8_g0, .inl (c1_2_g0, 3, .inl (fun _ => 0))), (q2_8_g0, .inl (c1_2_g0, 6, .inl (fun _ => 0))), (q3_8_g0, .inl (c1_2_g0, 6, .inl (fun _ => 0))), (q4_8_g0, .inl (c1_2_g0, 6, .inl (fun _ => 0))), (q5_8_g0, .inl (c1_2_g0, 6, .inl (fun _ => 0))), (q9_g0, .inl (c9_g0, 2, .inr (.inr (.inr (.inr (va_up (va_up (fun _ => none) (Int32.toNatClampNeg 0) (some q10_g0)) (Int32.toNatClampNeg 1) (some q12_g0))))))), (q10_g0, .inr (1, [.int 0, .int 0, .int 0, .int 0, .int 0, .int 0, .int 0, .int 0, .int 0, .ref q1_11_g0, .ref q2_11_g0, .ref q3_11_g0, .ref q4_11_g0, .ref q5_11_g0])), (q1_11_g0, .inl (c1_2_g0, 3, .inl (fun _ => 0))), (q2_11_g0, .inl (c1_2_g0, 6, .inl (fun _ => 0))), (q3_11_g0, .inl (c1_2_g0, 6, .inl (fun _ => 0))), (q4_11_g0, .inl (c1_2_g0, 6, .inl (fun _ => 0))), (q5_11_g0, .inl (c1_2_g0, 6, .inl (fun _ => 0))), (q12_g0, .inr (1, [.int 0, .int 0, .int 0, .int 0, .int 0, .int 0, .int 0, .int 0, .int 0, .ref q1_13_g0, .ref q2_13_g0, .ref q3_13_g0, .ref q4_13_g0, .ref q5_13_g0])), (q1_13_g0, .inl (c1_2_g0, 3, .inl (fun _ => 0))), (q2_13_g0, .inl (c1_2_g0, 6, .inl (fun _ => 0))), (q3_13_g0, .inl (c1_2_g0, 6, .inl (fun _ => 0))), (q4_13_g0, .inl (c1_2_g0, 6, .inl (fun _ => 0))), (q5_13_g0, .inl (c1_2_g0, 6, .inl (fun _ => 0))), (q14_g0, .inr (0, [.ref q1_15_g0, .int 0, .int 0])), (q1_15_g0, .inl (c1_2_g0, 408, .inl (fun _ => 0))), (q16_g0, .inr (2, [.ref q1_17_g0, .ref q2_17_g0])), (q1_17_g0, .inl (c1_2_g0, 72, .inl (fun _ => 0))), (q2_17_g0, .inl (c1_2_g0, 108, .inl (fun _ => 0))), (q18_g0, .inr (5, [.ref q1_19_g0, .int 0])), (q1_19_g0, .inl (c1_2_g0, 16, .inl (fun _ => 0))), (m0, .inr (7, [.ref q1_m0, .ref q2_m0, .ref q3_m0, .int 0, .ref q4_m0, .int 0, .ref q5_m0, .ref q6_m0, .ref q7_m0, .int 0, .ref q8_m0, .ref q9_m0, .ref q10_m0, .int 0, .int 0, .int 0, .int 0, .int 0, .int 0, .int 0, .ref q11_m0, .ref q12_m0, .int 0])), (q1_m0, .inl (c1_2_g0, 8, .inl (upd (upd (upd (upd (upd (upd (upd (upd (fun _ => 0) (Int32.toNatClampNeg 0) (-1)) (Int32.toNatClampNeg 1) (-1)) (Int32.toNatClampNeg 2) (-1)) (Int32.toNatClampNeg 3) (-1)) (Int32.toNatClampNeg 4) (-1)) (Int32.toNatClampNeg 5) (-1)) (Int32.toNatClampNeg 6) (-1)) (Int32.toNatClampNeg 7) (-1)))), (q2_m0, .inl (c1_2_g0, 8, .inl (fun _ => 0))), (q3_m0, .inl (c1_2_g0, 320, .inl (fun _ => 0))), (q4_m0, .inl (c1_2_g0, 40, .inl (fun _ => 0))), (q5_m0, .inl (c1_2_g0, 35, .inl (fun _ => 0))), (q6_m0, .inl (c1_2_g0, 35, .inl (fun _ => 0))), (q7_m0, .inl (c1_2_g0, 840, .inl (fun _ => 0))), (q8_m0, .inl (c1_2_g0, 70, .inl (fun _ => 0))), (q9_m0, .inl (c9_m0, 2, .inl (fun _ => 0))), (q10_m0, .inl (c10_m0, 80, .inl (fun _ => 0))), (q11_m0, .inl (c1_2_g0, 126, .inl (fun _ => 0))), (q12_m0, .inl (c1_2_g0, 16, .inl (fun _ => 0)))]) [0, 1, 2, 3, 4, 5, 6, 7, 8, 9, 10, 11, 12, 13, 14, 15, 16, 17, 18, 19, 20, 21, 22, 23, 24, 25, 26, 27, 28, 29, 30, 31, 32, 33, 34, 35, 36, 37, 38, 39, 40, 41, 42, 43, 44, 45, 46, 47, 48, 49, 50, 51] (by decide) rfl
  have hK0 : va_K (dC, dI) clA (tysA (mkcA c1_2_g0 c10_m0 c9_m0 c9_g0)) s := hK.sub [0, 38, 37, 14] rfl
  have hmap : ([(g0, .inr (6, [.ref q1_g0, .ref q3_g0, .ref q5_g0, .ref q7_g0, .ref q9_g0, .ref q14_g0, .ref q16_g0, .ref q18_g0, .int 0, .int 0])), (q1_g0, .inr (3, [.ref q1_2_g0, .ref q2_2_g0, .ref q3_2_g0])), (q1_2_g0, .inl (c1_2_g0, 8, .inl (upd (upd (upd (upd (upd (upd (upd (upd (fun _ => 0) (Int32.toNatClampNeg 0) (-1)) (Int32.toNatClampNeg 1) (-1)) (Int32.toNatClampNeg 2) (-1)) (Int32.toNatClampNeg 3) (-1)) (Int32.toNatClampNeg 4) (-1)) (Int32.toNatClampNeg 5) (-1)) (Int32.toNatClampNeg 6) (-1)) (Int32.toNatClampNeg 7) (-1)))), (q2_2_g0, .inl (c1_2_g0, 8, .inl (fun _ => 0))), (q3_2_g0, .inl (c1_2_g0, 320, .inl (fun _ => 0))), (q3_g0, .inr (4, [.ref q1_4_g0, .int 0, .int 0, .int 0, .int 0])), (q1_4_g0, .inl (c1_2_g0, 80, .inl (fun _ => 0))), (q5_g0, .inr (1, [.int 0, .int 0, .int 0, .int 0, .int 0, .int 0, .int 0, .int 0, .int 0, .ref q1_6_g0, .ref q2_6_g0, .ref q3_6_g0, .ref q4_6_g0, .ref q5_6_g0])), (q1_6_g0, .inl (c1_2_g0, 3, .inl (fun _ => 0))), (q2_6_g0, .inl (c1_2_g0, 6, .inl (fun _ => 0))), (q3_6_g0, .inl (c1_2_g0, 6, .inl (fun _ => 0))), (q4_6_g0, .inl (c1_2_g0, 6, .inl (fun _ => 0))), (q5_6_g0, .inl (c1_2_g0, 6, .inl (fun _ => 0))), (q7_g0, .inr (1, [.int 0, .int 0, .int 0, .int 0, .int 0, .int 0, .int 0, .int 0, .int 0, .ref q1_8_g0, .ref q2_8_g0, .ref q3_8_g0, .ref q4_8_g0, .ref q5_8_g0])), (q1_8_g0, .inl (c1_2_g0, 3, .inl (fun _ => 0))), (q2_8_g0, .inl (c1_2_g0, 6, .inl (fun _ => 0))), (q3_8_g0, .inl (c1_2_g0, 6, .inl (fun _ => 0))), (q4_8_g0, .inl (c1_2_g0, 6, .inl (fun _ => 0))), (q5_8_g0, .inl (c1_2_g0, 6, .inl (fun _ => 0))), (q9_g0, .inl (c9_g0, 2, .inr (.inr (.inr (.inr (va_up (va_up (fun _ => none) (Int32.toNatClampNeg 0) (some q10_g0)) (Int32.toNatClampNeg 1) (some q12_g0))))))), (q10_g0, .inr (1, [.int 0, .int 0, .int 0, .int 0, .int 0, .int 0, .int 0, .int 0, .int 0, .ref q1_11_g0, .ref q2_11_g0, .ref q3_11_g0, .ref q4_11_g0, .ref q5_11_g0])), (q1_11_g0, .inl (c1_2_g0, 3, .inl (fun _ => 0))), (q2_11_g0, .inl (c1_2_g0, 6, .inl (fun _ => 0))), (q3_11_g0, .inl (c1_2_g0, 6, .inl (fun _ => 0))), (q4_11_g0, .inl (c1_2_g0, 6, .inl (fun _ => 0))), (q5_11_g0, .inl (c1_2_g0, 6, .inl (fun _ => 0))), (q12_g0, .inr (1, [.int 0, .int 0, .int 0, .int 0, .int 0, .int 0, .int 0, .int 0, .int 0, .ref q1_13_g0, .ref q2_13_g0, .ref q3_13_g0, .ref q4_13_g0, .ref q5_13_g0])), (q1_13_g0, .inl (c1_2_g0, 3, .inl (fun _ => 0))), (q2_13_g0, .inl (c1_2_g0, 6, .inl (fun _ => 0))), (q3_13_g0, .inl (c1_2_g0, 6, .inl (fun _ => 0))), (q4_13_g0, .inl (c1_2_g0, 6, .inl (fun _ => 0))), (q5_13_g0, .inl (c1_2_g0, 6, .inl (fun _ => 0))), (q14_g0, .inr (0, [.ref q1_15_g0, .int 0, .int 0])), (q1_15_g0, .inl (c1_2_g0, 408, .inl (fun _ => 0))), (q16_g0, .inr (2, [.ref q1_17_g0, .ref q2_17_g0])), (q1_17_g0, .inl (c1_2_g0, 72, .inl (fun _ => 0))), (q2_17_g0, .inl (c1_2_g0, 108, .inl (fun _ => 0))), (q18_g0, .inr (5, [.ref q1_19_g0, .int 0])), (q1_19_g0, .inl (c1_2_g0, 16, .inl (fun _ => 0))), (m0, .inr (7, [.ref q1_m0, .ref q2_m0, .ref q3_m0, .int 0, .ref q4_m0, .int 0, .ref q5_m0, .ref q6_m0, .ref q7_m0, .int 0, .ref q8_m0, .ref q9_m0, .ref q10_m0, .int 0, .int 0, .int 0, .int 0, .int 0, .int 0, .int 0, .ref q11_m0, .ref q12_m0, .int 0])), (q1_m0, .inl (c1_2_g0, 8, .inl (upd (upd (upd (upd (upd (upd (upd (upd (fun _ => 0) (Int32.toNatClampNeg 0) (-1)) (Int32.toNatClampNeg 1) (-1)) (Int32.toNatClampNeg 2) (-1)) (Int32.toNatClampNeg 3) (-1)) (Int32.toNatClampNeg 4) (-1)) (Int32.toNatClampNeg 5) (-1)) (Int32.toNatClampNeg 6) (-1)) (Int32.toNatClampNeg 7) (-1)))), (q2_m0, .inl (c1_2_g0, 8, .inl (fun _ => 0))), (q3_m0, .inl (c1_2_g0, 320, .inl (fun _ => 0))), (q4_m0, .inl (c1_2_g0, 40, .inl (fun _ => 0))), (q5_m0, .inl (c1_2_g0, 35, .inl (fun _ => 0))), (q6_m0, .inl (c1_2_g0, 35, .inl (fun _ => 0))), (q7_m0, .inl (c1_2_g0, 840, .inl (fun _ => 0))), (q8_m0, .inl (c1_2_g0, 70, .inl (fun _ => 0))), (q9_m0, .inl (c9_m0, 2, .inl (fun _ => 0))), (q10_m0, .inl (c10_m0, 80, .inl (fun _ => 0))), (q11_m0, .inl (c1_2_g0, 126, .inl (fun _ => 0))), (q12_m0, .inl (c1_2_g0, 16, .inl (fun _ => 0)))] : va_W).map (fun q => q.1) = (List.range 52).map (mkad [g0, q1_g0, q1_2_g0, q2_2_g0, q3_2_g0, q3_g0, q1_4_g0, q5_g0, q1_6_g0, q2_6_g0, q3_6_g0, q4_6_g0, q5_6_g0, q7_g0, q1_8_g0, q2_8_g0, q3_8_g0, q4_8_g0, q5_8_g0, q9_g0, q10_g0, q1_11_g0, q2_11_g0, q3_11_g0, q4_11_g0, q5_11_g0, q12_g0, q1_13_g0, q2_13_g0, q3_13_g0, q4_13_g0, q5_13_g0, q14_g0, q1_15_g0, q16_g0, q1_17_g0, q2_17_g0, q18_g0, q1_19_g0, m0, q1_m0, q2_m0, q3_m0, q4_m0, q5_m0, q6_m0, q7_m0, q8_m0, q9_m0, q10_m0, q11_m0, q12_m0] t60 t61 t62 b) := rfl
  have hI := inj_of hmap hD0
  have hAA := all_in hmap hD0
  have hPw : va_P (dC, dI) clA (wd (mkad [g0, q1_g0, q1_2_g0, q2_2_g0, q3_2_g0, q3_g0, q1_4_g0, q5_g0, q1_6_g0, q2_6_g0, q3_6_g0, q4_6_g0, q5_6_g0, q7_g0, q1_8_g0, q2_8_g0, q3_8_g0, q4_8_g0, q5_8_g0, q9_g0, q10_g0, q1_11_g0, q2_11_g0, q3_11_g0, q4_11_g0, q5_11_g0, q12_g0, q1_13_g0, q2_13_g0, q3_13_g0, q4_13_g0, q5_13_g0, q14_g0, q1_15_g0, q16_g0, q1_17_g0, q2_17_g0, q18_g0, q1_19_g0, m0, q1_m0, q2_m0, q3_m0, q4_m0, q5_m0, q6_m0, q7_m0, q8_m0, q9_m0, q10_m0, q11_m0, q12_m0] t60 t61 t62 b) (mkcA c1_2_g0 c10_m0 c9_m0 c9_g0) (M_i L xs)) H := by
    refine va_P_wd hP0 ?_ rfl rfl (refs2 rfl rfl)
    intro k hk
    by_cases h52 : k < 52
    · match k, h52, hk with
      | 0, _, _ => rfl
      | 1, _, _ => rfl
      | 2, _, _ => rfl
      | 3, _, _ => rfl
      | 4, _, _ => rfl
      | 5, _, _ => rfl
      | 6, _, _ => rfl
      | 7, _, _ => rfl
      | 8, _, _ => rfl
      | 9, _, _ => rfl
      | 10, _, _ => rfl
      | 11, _, _ => rfl
      | 12, _, _ => rfl
      | 13, _, _ => rfl
      | 14, _, _ => rfl
      | 15, _, _ => rfl
      | 16, _, _ => rfl
      | 17, _, _ => rfl
      | 18, _, _ => rfl
      | 19, _, h => exact absurd rfl h
      | 20, _, _ => rfl
      | 21, _, _ => rfl
      | 22, _, _ => rfl
      | 23, _, _ => rfl
      | 24, _, _ => rfl
      | 25, _, _ => rfl
      | 26, _, _ => rfl
      | 27, _, _ => rfl
      | 28, _, _ => rfl
      | 29, _, _ => rfl
      | 30, _, _ => rfl
      | 31, _, _ => rfl
      | 32, _, _ => rfl
      | 33, _, _ => rfl
      | 34, _, _ => rfl
      | 35, _, _ => rfl
      | 36, _, _ => rfl
      | 37, _, _ => rfl
      | 38, _, _ => rfl
      | 39, _, _ => rfl
      | 40, _, _ => rfl
      | 41, _, _ => rfl
      | 42, _, _ => rfl
      | 43, _, _ => rfl
      | 44, _, _ => rfl
      | 45, _, _ => rfl
      | 46, _, _ => rfl
      | 47, _, _ => rfl
      | 48, _, _ => rfl
      | 49, _, _ => rfl
      | 50, _, _ => rfl
      | 51, _, _ => rfl
      | k + 52, h, _ => exact absurd h (by omega)
    · rw [List.getElem?_eq_none (by simp [wd]; omega), List.getElem?_eq_none (by simp; omega)]
  have hL31 : L < 2 ^ 31 := Nat.lt_of_le_of_lt hL (by decide)
  have hal : alen (M_i L xs) 63 = L := by
    show (Int32.ofNat L).toNatClampNeg = L
    exact Int32.toNatClampNeg_ofNat_of_lt hL31
  have hSt : Stx (fun q : Nat => s.heap.size ≤ q) (mkad [g0, q1_g0, q1_2_g0, q2_2_g0, q3_2_g0, q3_g0, q1_4_g0, q5_g0, q1_6_g0, q2_6_g0, q3_6_g0, q4_6_g0, q5_6_g0, q7_g0, q1_8_g0, q2_8_g0, q3_8_g0, q4_8_g0, q5_8_g0, q9_g0, q10_g0, q1_11_g0, q2_11_g0, q3_11_g0, q4_11_g0, q5_11_g0, q12_g0, q1_13_g0, q2_13_g0, q3_13_g0, q4_13_g0, q5_13_g0, q14_g0, q1_15_g0, q16_g0, q1_17_g0, q2_17_g0, q18_g0, q1_19_g0, m0, q1_m0, q2_m0, q3_m0, q4_m0, q5_m0, q6_m0, q7_m0, q8_m0, q9_m0, q10_m0, q11_m0, q12_m0] t60 t61 t62 b) (M_i L xs) s s.heap := by
    refine ⟨?_, ?_⟩
    · rintro k (rfl | rfl | rfl)
      · exact hZ60
      · exact hZ61
      · exact hZ62
    · intro k h1 h2
      rcases (show k = 60 ∨ k = 61 ∨ k = 62 ∨ k = 63 by omega) with rfl | rfl | rfl | rfl
      · exact hT60
      · exact hT61
      · exact hT62
      · rw [hal]
        obtain ⟨scr, x1, x2, x3, x4, x5⟩ := hX
        exact ⟨scr, x1, x2, x3, by omega, by rw [x4], x5, Nat.not_le.mpr hbl⟩
  have hNW : ∀ w ∈ nestW, va_Nw w s := by
    intro w hw
    have h1 := st2_link w hw
    obtain ⟨q, hq, rfl⟩ := List.mem_map.mp hw
    exact va_Nw.of rfl (hts1 _ h1)
  have F : Fx p s m #[Value.ref b] c (dC, dI) (mkad [g0, q1_g0, q1_2_g0, q2_2_g0, q3_2_g0, q3_g0, q1_4_g0, q5_g0, q1_6_g0, q2_6_g0, q3_6_g0, q4_6_g0, q5_6_g0, q7_g0, q1_8_g0, q2_8_g0, q3_8_g0, q4_8_g0, q5_8_g0, q9_g0, q10_g0, q1_11_g0, q2_11_g0, q3_11_g0, q4_11_g0, q5_11_g0, q12_g0, q1_13_g0, q2_13_g0, q3_13_g0, q4_13_g0, q5_13_g0, q14_g0, q1_15_g0, q16_g0, q1_17_g0, q2_17_g0, q18_g0, q1_19_g0, m0, q1_m0, q2_m0, q3_m0, q4_m0, q5_m0, q6_m0, q7_m0, q8_m0, q9_m0, q10_m0, q11_m0, q12_m0] t60 t61 t62 b) (mkcA c1_2_g0 c10_m0 c9_m0 c9_g0) (fun q : Nat => s.heap.size ≤ q) 211 (M_i L xs) := ⟨hx, hb, hml, hown, hts, hK0, hSt, hAA, hNW, hI⟩
  have clo : Clo (Ct 15) 211 (fun r _ => r = some (.int 1)) (XX p l e room_1 s m #[Value.ref b] below meth c 52 2814 (lw_Z below #[Value.ref b] s) (dC, dI) (mkad [g0, q1_g0, q1_2_g0, q2_2_g0, q3_2_g0, q3_g0, q1_4_g0, q5_g0, q1_6_g0, q2_6_g0, q3_6_g0, q4_6_g0, q5_6_g0, q7_g0, q1_8_g0, q2_8_g0, q3_8_g0, q4_8_g0, q5_8_g0, q9_g0, q10_g0, q1_11_g0, q2_11_g0, q3_11_g0, q4_11_g0, q5_11_g0, q12_g0, q1_13_g0, q2_13_g0, q3_13_g0, q4_13_g0, q5_13_g0, q14_g0, q1_15_g0, q16_g0, q1_17_g0, q2_17_g0, q18_g0, q1_19_g0, m0, q1_m0, q2_m0, q3_m0, q4_m0, q5_m0, q6_m0, q7_m0, q8_m0, q9_m0, q10_m0, q11_m0, q12_m0] t60 t61 t62 b) (mkcA c1_2_g0 c10_m0 c9_m0 c9_g0) (fun q : Nat => s.heap.size ≤ q) 211 (M_i L xs)) := by
    refine ⟨fun i c g c' a b q k => step1 F ⟨Nat.le_of_ble_eq_true rfl, ?_⟩ a b q k, fun i c P c1 c2 a b k1 k2 => step2 F a b k1 k2, fun i pc t x L st M a b q k => step3 F a b q k, fun i pc j2 L st as2 rest M a b k => step4 F (rmK := rmD 15) (fun j as M Φ h1 h2 h3 => sim l (dC, dI) _ _ hI 15 j as M Φ h1 h2 h3) ⟨rfl, rfl, Nat.le_of_ble_eq_true rfl, Nat.le_of_ble_eq_true rfl⟩ ⟨Nat.le_of_ble_eq_true rfl, Nat.le_of_ble_eq_true rfl⟩ a b k, fun pc L L' st M a k => step5 a k, ?_⟩
    · show 8 + (nativeFrameWords "java/lang/System" "arraycopy" 5 + 11) ≤ 84000
      have : nativeFrameWords "java/lang/System" "arraycopy" 5 ≤ 40 := by decide +kernel
      omega
    · intro i pc L2 st M1 g r hok hrt hg hp H2 locs2 ls2 hO hl2
      obtain ⟨ins, len, ⟨a, bb⟩, v⟩ := i
      have hd := okI_dec hok
      unfold rtn at hrt
      split at hrt
      · split at hrt
        · cases hrt; cases hp
        · cases hrt
      · rename_i x hi1
        have hi1 : ins = .ireturn := hi1
        subst hi1
        simp [okI] at hok
        obtain ⟨-, rfl⟩ := hok
        have hx1 : x = 1 := by
          split at hrt
          · cases hrt; cases hp; rfl
          · cases hrt; cases hp; rfl
          · cases hrt
        subst hx1
        refine va_forget (fun q hq => hO.2.1.2.2 q hq) ?_
        refine W.widen (k := 600000) (n := 7302250) (Nat.le_of_ble_eq_true rfl) (Nat.le_of_ble_eq_true rfl) ?_
        exact lw_ret hx hb hr hlocks hd
      · cases hrt
  obtain ⟨n, hn⟩ := hpure L xs hL
  have hw := P_Law_law_18 (d := 0) (Post := fun r _ => r = some (.int 1)) (Φ := fun r _ => r = 1) (fun r M1 h => by rw [h]) n 0 (M_i L xs) hn
  exact hw _ clo H locs ls ⟨hPw, hS, fun _ _ => rfl⟩ ⟨lv_sub hl [3, 2, 1, 0] rfl, rfl⟩
