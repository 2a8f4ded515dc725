/-! printed by wip/whole/gen_ctor.py: the constructors -/
theorem wq (w : Cond) (i : Nat) (h : lw_tbl[i]? = some w) (g : goodWord w = true) : w ∈ tbG := List.mem_filter.mpr ⟨List.mem_of_getElem? h, g⟩
def nestC : List Cond := [.methodLinkNest "GearRoad" 11 ⟨"GearRoad$Rows", "<init>", "()V"⟩ "GearRoad", .methodLinkNest "GearRoad" 18 ⟨"GearRoad$Tape", "<init>", "()V"⟩ "GearRoad", .methodLinkNest "GearRoad" 25 ⟨"GearRoad$Bike", "<init>", "()V"⟩ "GearRoad", .methodLinkNest "GearRoad" 39 ⟨"GearRoad$Acts", "<init>", "()V"⟩ "GearRoad", .methodLinkNest "GearRoad" 46 ⟨"GearRoad$Planner", "<init>", "()V"⟩ "GearRoad", .methodLinkNest "GearRoad" 53 ⟨"GearRoad$Trace", "<init>", "()V"⟩ "GearRoad"]
theorem nestC_in : ∀ w ∈ nestC, w ∈ lw_tbl := inT _ [82, 101, 126, 210, 227, 240] (by decide +kernel)
abbrev at_Acts (dC : Nat → ClassId) (dI : Nat → Nat → Nat) (A : Nat → Prop) (h0 : Nat) (_ : Unit) (t : State) : Prop := ∃ (q1 : Nat) (c1 : ClassId), va_P (dC, dI) clA [(h0, .inr (0, [.ref q1, .int 0, .int 0])), (q1, .inl (c1, 408, .inl (fun _ => 0)))] t.heap ∧ va_K (dC, dI) clA [(c1, .int)] t ∧ va_D A [(h0, .inr (0, [.ref q1, .int 0, .int 0])), (q1, .inl (c1, 408, .inl (fun _ => 0)))]
set_option maxHeartbeats 4000000 in
set_option maxRecDepth 100000 in
theorem c_Acts (l : Launch) (dC : Nat → ClassId) (dI : Nat → Nat → Nat) (h0 : Nat) (sz : Nat) : Met l (mY 5) (wsJ 5) ({ frames := 1, cells := 1, slots := 408, locals := 20 }) (va_Pc [.ref h0] (fun U => U.heap.size = sz ∧ va_P (dC, dI) clA [(h0, .inr (0, [.null, .int 0, .int 0]))] U.heap ∧ va_K (dC, dI) clA [] U ∧ va_D (fun _ => True) [(h0, .inr (0, [.null, .int 0, .int 0]))])) (va_Qv (fun _ : Unit => True) (at_Acts dC dI (va_A [(h0, .inr (0, [.null, .int 0, .int 0]))] sz) h0) (va_A [(h0, .inr (0, [.null, .int 0, .int 0]))] sz)) 1 408 (va_A [(h0, .inr (0, [.null, .int 0, .int 0]))] sz) := by
  refine Met.ofW (cc := mB 5) (maxL := 1) (ret := none) (by decide +kernel) rfl ?_
  intro p e s m args below meth c s₁ B hml hv
  obtain ⟨rfl, hsz, hP, hK, hD0⟩ := hv
  have hx := B.exec
  have hb := B.bytes
  have hr := B.returns
  have hts0 := atoms_spec (ws := wsJ 5) B.pre
  have hts : ∀ w ∈ tbG, w.before ([.ref h0] : List Value).toArray s = true := fun w h => hts0 w (List.mem_cons_of_mem _ h)
  have hown : s.vm.findClass "GearRoad$Acts" = some m.cls := findClass_of_methodNamed B.named
  have hlocks := B.notSynchronized
  have hin : meth.name = "<init>" := (name_of_methodNamed B.named B.method).1
  subst hsz
  have hD := hD0.self (sz := s.heap.size)
  generalize hAe : va_A [(h0, .inr (0, [.null, .int 0, .int 0]))] s.heap.size = A at hD ⊢
  have hA : ∀ q : Nat, s.heap.size ≤ q → A q := fun q h => by rw [← hAe]; exact Or.inr h
  have hS : va_S A s.heap s.heap [] := va_S.rf
  have hP : va_P (dC, dI) clA [(h0, .inr (0, [.null, .int 0, .int 0]))] s.heap := hP
  have hl := lv_entry ([.ref h0]) (n := 1) (Nat.le_of_ble_eq_true rfl)
  rw [lg_entry_eq]
  generalize (lg_sl ([.ref h0]) ++ List.replicate (1 - (lg_sl ([.ref h0])).length) Slot.unset).toArray = ls at hl ⊢
  have hl : lv_has ls 1 [(0, .ref h0)] := hl
  refine lv_aload_n hx hb (show decode (mB 5) 0 = .ok (.aload_n 0, 1) from by decide +kernel) rfl (lv_at hl 0 rfl) ?_
  refine W.objInit hx hb hown (hts (.methodLink "GearRoad$Acts" 5 objectInit) (wq _ 213 (by decide +kernel) rfl)) (hts (.instanceMethod objectInit) (wq _ 78 (by decide +kernel) rfl)) (hts _ (wq (.code objectInit ⟨#[0xb1]⟩ 1 none) 79 (by decide +kernel) rfl)) rfl (by rw [hml]; exact hl.1) rfl (show decode (mB 5) 1 = .ok (.invokespecial 5, 3) from by decide +kernel) (Nat.le_of_ble_eq_true rfl) (Nat.le_of_ble_eq_true rfl) ?_
  refine W.eq (g2 := F0 m 4 ls []) rfl ?_
  refine lv_aload_n hx hb (show decode (mB 5) 4 = .ok (.aload_n 0, 1) from by decide +kernel) rfl (lv_at hl 0 rfl) ?_
  refine lv_sipush (v := 408) hx hb (show decode (mB 5) 5 = .ok (.sipush 408, 3) from by decide +kernel) (by decide) ?_
  refine va_newa (atype := .int) (ty := .int) (a0 := (408, .inl (fun _ => 0))) (N' := 408) hx hb (hts (.arrayClass .int) (wq _ 98 (by decide +kernel) rfl)) rfl hK hP hD hS hA (fun _ => rfl) (by decide) (by decide) (Nat.le_of_ble_eq_true rfl) (Nat.le_of_ble_eq_true rfl) (Nat.le_of_ble_eq_true rfl) (show decode (mB 5) 8 = .ok (.newarray .int, 2) from by decide +kernel) (fun q1 c1 H hK hP hD hS => ?_)
  have hP : va_P (dC, dI) clA [(h0, .inr (0, [.null, .int 0, .int 0])), (q1, .inl (c1, 408, .inl (fun _ => 0)))] H := hP
  have hD : va_D A [(h0, .inr (0, [.null, .int 0, .int 0])), (q1, .inl (c1, 408, .inl (fun _ => 0)))] := hD
  have hK : va_K (dC, dI) clA [(c1, .int)] s := hK
  refine W.widen (k := 1) (n := 408) (Nat.le_of_ble_eq_true rfl) (Nat.le_of_ble_eq_true rfl) ?_
  refine va_putF (D := (dC, dI)) (ci := 0) (v := .ref q1) (ty := tyX0 0) (C := RX0) (T := TX0) (N := 3) hx hb hts cl_in0 tyX0 tyX0_ok nmX0 hown hK hP hD hS 0 rfl rfl 0 (by decide) (hts (.fieldLink "GearRoad$Acts" 11 "GearRoad$Acts" "kept" "[I") (wq _ 214 (by decide +kernel) rfl)) (fun _ h9 => h9) rfl hin rfl (tyX0_ok 0 (by decide)) rfl rfl (Nat.le_of_ble_eq_true rfl) (show decode (mB 5) 10 = .ok (.putfield 11, 3) from by decide +kernel) (fun H locs hP hD hS => ?_)
  have hP : va_P (dC, dI) clA [(h0, .inr (0, [.ref q1, .int 0, .int 0])), (q1, .inl (c1, 408, .inl (fun _ => 0)))] H := hP
  have hD : va_D A [(h0, .inr (0, [.ref q1, .int 0, .int 0])), (q1, .inl (c1, 408, .inl (fun _ => 0)))] := hD
  refine lv_aload_n hx hb (show decode (mB 5) 13 = .ok (.aload_n 0, 1) from by decide +kernel) rfl (lv_at hl 0 rfl) ?_
  refine lv_iconst (v := 0) hx hb (show decode (mB 5) 14 = .ok (.iconst 0, 1) from by decide +kernel) (by decide) ?_
  refine va_put (D := (dC, dI)) (ci := 0) (v := .int 0) (ty := tyX0 1) (C := RX0) (T := TX0) (N := 3) hx hb hts cl_in0 tyX0 tyX0_ok nmX0 hown hK hP hD hS 0 rfl rfl 1 (by decide) (hts (.fieldLink "GearRoad$Acts" 15 "GearRoad$Acts" "size" "I") (wq _ 215 (by decide +kernel) rfl)) (fun _ h9 => h9) rfl (tyX0_ok 1 (by decide)) rfl rfl (Nat.le_of_ble_eq_true rfl) (show decode (mB 5) 15 = .ok (.putfield 15, 3) from by decide +kernel) (fun H locs hP hD hS => ?_)
  have hP : va_P (dC, dI) clA [(h0, .inr (0, [.ref q1, .int 0, .int 0])), (q1, .inl (c1, 408, .inl (fun _ => 0)))] H := hP
  have hD : va_D A [(h0, .inr (0, [.ref q1, .int 0, .int 0])), (q1, .inl (c1, 408, .inl (fun _ => 0)))] := hD
  refine lv_aload_n hx hb (show decode (mB 5) 18 = .ok (.aload_n 0, 1) from by decide +kernel) rfl (lv_at hl 0 rfl) ?_
  refine lv_iconst (v := 0) hx hb (show decode (mB 5) 19 = .ok (.iconst 0, 1) from by decide +kernel) (by decide) ?_
  refine va_put (D := (dC, dI)) (ci := 0) (v := .int 0) (ty := tyX0 2) (C := RX0) (T := TX0) (N := 3) hx hb hts cl_in0 tyX0 tyX0_ok nmX0 hown hK hP hD hS 0 rfl rfl 2 (by decide) (hts (.fieldLink "GearRoad$Acts" 19 "GearRoad$Acts" "nextPlace" "I") (wq _ 217 (by decide +kernel) rfl)) (fun _ h9 => h9) rfl (tyX0_ok 2 (by decide)) rfl rfl (Nat.le_of_ble_eq_true rfl) (show decode (mB 5) 20 = .ok (.putfield 19, 3) from by decide +kernel) (fun H locs hP hD hS => ?_)
  have hP : va_P (dC, dI) clA [(h0, .inr (0, [.ref q1, .int 0, .int 0])), (q1, .inl (c1, 408, .inl (fun _ => 0)))] H := hP
  have hD : va_D A [(h0, .inr (0, [.ref q1, .int 0, .int 0])), (q1, .inl (c1, 408, .inl (fun _ => 0)))] := hD
  exact W.vret hx hb hr (fun t ht hW => ⟨⟨(), rfl, trivial, q1, c1, by rw [ht]; exact hP, va_K.moved hW.alike hK, hD⟩, hS.F ht⟩) hS.2.2 (show decode (mB 5) 23 = .ok (.return_, 1) from by decide +kernel) hlocks
abbrev at_Trace (dC : Nat → ClassId) (dI : Nat → Nat → Nat) (A : Nat → Prop) (h0 : Nat) (_ : Unit) (t : State) : Prop := ∃ (q1 : Nat) (c1 : ClassId), va_P (dC, dI) clA [(h0, .inr (5, [.ref q1, .int 0])), (q1, .inl (c1, 16, .inl (fun _ => 0)))] t.heap ∧ va_K (dC, dI) clA [(c1, .int)] t ∧ va_D A [(h0, .inr (5, [.ref q1, .int 0])), (q1, .inl (c1, 16, .inl (fun _ => 0)))]
set_option maxHeartbeats 4000000 in
set_option maxRecDepth 100000 in
theorem c_Trace (l : Launch) (dC : Nat → ClassId) (dI : Nat → Nat → Nat) (h0 : Nat) (sz : Nat) : Met l (mY 7) (wsJ 7) ({ frames := 1, cells := 1, slots := 16, locals := 20 }) (va_Pc [.ref h0] (fun U => U.heap.size = sz ∧ va_P (dC, dI) clA [(h0, .inr (5, [.null, .int 0]))] U.heap ∧ va_K (dC, dI) clA [] U ∧ va_D (fun _ => True) [(h0, .inr (5, [.null, .int 0]))])) (va_Qv (fun _ : Unit => True) (at_Trace dC dI (va_A [(h0, .inr (5, [.null, .int 0]))] sz) h0) (va_A [(h0, .inr (5, [.null, .int 0]))] sz)) 1 16 (va_A [(h0, .inr (5, [.null, .int 0]))] sz) := by
  refine Met.ofW (cc := mB 7) (maxL := 1) (ret := none) (by decide +kernel) rfl ?_
  intro p e s m args below meth c s₁ B hml hv
  obtain ⟨rfl, hsz, hP, hK, hD0⟩ := hv
  have hx := B.exec
  have hb := B.bytes
  have hr := B.returns
  have hts0 := atoms_spec (ws := wsJ 7) B.pre
  have hts : ∀ w ∈ tbG, w.before ([.ref h0] : List Value).toArray s = true := fun w h => hts0 w (List.mem_cons_of_mem _ h)
  have hown : s.vm.findClass "GearRoad$Trace" = some m.cls := findClass_of_methodNamed B.named
  have hlocks := B.notSynchronized
  have hin : meth.name = "<init>" := (name_of_methodNamed B.named B.method).1
  subst hsz
  have hD := hD0.self (sz := s.heap.size)
  generalize hAe : va_A [(h0, .inr (5, [.null, .int 0]))] s.heap.size = A at hD ⊢
  have hA : ∀ q : Nat, s.heap.size ≤ q → A q := fun q h => by rw [← hAe]; exact Or.inr h
  have hS : va_S A s.heap s.heap [] := va_S.rf
  have hP : va_P (dC, dI) clA [(h0, .inr (5, [.null, .int 0]))] s.heap := hP
  have hl := lv_entry ([.ref h0]) (n := 1) (Nat.le_of_ble_eq_true rfl)
  rw [lg_entry_eq]
  generalize (lg_sl ([.ref h0]) ++ List.replicate (1 - (lg_sl ([.ref h0])).length) Slot.unset).toArray = ls at hl ⊢
  have hl : lv_has ls 1 [(0, .ref h0)] := hl
  refine lv_aload_n hx hb (show decode (mB 7) 0 = .ok (.aload_n 0, 1) from by decide +kernel) rfl (lv_at hl 0 rfl) ?_
  refine W.objInit hx hb hown (hts (.methodLink "GearRoad$Trace" 1 objectInit) (wq _ 243 (by decide +kernel) rfl)) (hts (.instanceMethod objectInit) (wq _ 78 (by decide +kernel) rfl)) (hts _ (wq (.code objectInit ⟨#[0xb1]⟩ 1 none) 79 (by decide +kernel) rfl)) rfl (by rw [hml]; exact hl.1) rfl (show decode (mB 7) 1 = .ok (.invokespecial 1, 3) from by decide +kernel) (Nat.le_of_ble_eq_true rfl) (Nat.le_of_ble_eq_true rfl) ?_
  refine W.eq (g2 := F0 m 4 ls []) rfl ?_
  refine lv_aload_n hx hb (show decode (mB 7) 4 = .ok (.aload_n 0, 1) from by decide +kernel) rfl (lv_at hl 0 rfl) ?_
  refine lv_bipush (v := 16) hx hb (show decode (mB 7) 5 = .ok (.bipush 16, 2) from by decide +kernel) (by decide) ?_
  refine va_newa (atype := .int) (ty := .int) (a0 := (16, .inl (fun _ => 0))) (N' := 16) hx hb (hts (.arrayClass .int) (wq _ 98 (by decide +kernel) rfl)) rfl hK hP hD hS hA (fun _ => rfl) (by decide) (by decide) (Nat.le_of_ble_eq_true rfl) (Nat.le_of_ble_eq_true rfl) (Nat.le_of_ble_eq_true rfl) (show decode (mB 7) 7 = .ok (.newarray .int, 2) from by decide +kernel) (fun q1 c1 H hK hP hD hS => ?_)
  have hP : va_P (dC, dI) clA [(h0, .inr (5, [.null, .int 0])), (q1, .inl (c1, 16, .inl (fun _ => 0)))] H := hP
  have hD : va_D A [(h0, .inr (5, [.null, .int 0])), (q1, .inl (c1, 16, .inl (fun _ => 0)))] := hD
  have hK : va_K (dC, dI) clA [(c1, .int)] s := hK
  refine W.widen (k := 1) (n := 16) (Nat.le_of_ble_eq_true rfl) (Nat.le_of_ble_eq_true rfl) ?_
  refine va_putF (D := (dC, dI)) (ci := 5) (v := .ref q1) (ty := tyX5 0) (C := RX5) (T := TX5) (N := 2) hx hb hts cl_in5 tyX5 tyX5_ok nmX5 hown hK hP hD hS 0 rfl rfl 0 (by decide) (hts (.fieldLink "GearRoad$Trace" 9 "GearRoad$Trace" "numbers" "[I") (wq _ 244 (by decide +kernel) rfl)) (fun _ h9 => h9) rfl hin rfl (tyX5_ok 0 (by decide)) rfl rfl (Nat.le_of_ble_eq_true rfl) (show decode (mB 7) 9 = .ok (.putfield 9, 3) from by decide +kernel) (fun H locs hP hD hS => ?_)
  have hP : va_P (dC, dI) clA [(h0, .inr (5, [.ref q1, .int 0])), (q1, .inl (c1, 16, .inl (fun _ => 0)))] H := hP
  have hD : va_D A [(h0, .inr (5, [.ref q1, .int 0])), (q1, .inl (c1, 16, .inl (fun _ => 0)))] := hD
  refine lv_aload_n hx hb (show decode (mB 7) 12 = .ok (.aload_n 0, 1) from by decide +kernel) rfl (lv_at hl 0 rfl) ?_
  refine lv_iconst (v := 0) hx hb (show decode (mB 7) 13 = .ok (.iconst 0, 1) from by decide +kernel) (by decide) ?_
  refine va_put (D := (dC, dI)) (ci := 5) (v := .int 0) (ty := tyX5 1) (C := RX5) (T := TX5) (N := 2) hx hb hts cl_in5 tyX5 tyX5_ok nmX5 hown hK hP hD hS 0 rfl rfl 1 (by decide) (hts (.fieldLink "GearRoad$Trace" 13 "GearRoad$Trace" "size" "I") (wq _ 246 (by decide +kernel) rfl)) (fun _ h9 => h9) rfl (tyX5_ok 1 (by decide)) rfl rfl (Nat.le_of_ble_eq_true rfl) (show decode (mB 7) 14 = .ok (.putfield 13, 3) from by decide +kernel) (fun H locs hP hD hS => ?_)
  have hP : va_P (dC, dI) clA [(h0, .inr (5, [.ref q1, .int 0])), (q1, .inl (c1, 16, .inl (fun _ => 0)))] H := hP
  have hD : va_D A [(h0, .inr (5, [.ref q1, .int 0])), (q1, .inl (c1, 16, .inl (fun _ => 0)))] := hD
  exact W.vret hx hb hr (fun t ht hW => ⟨⟨(), rfl, trivial, q1, c1, by rw [ht]; exact hP, va_K.moved hW.alike hK, hD⟩, hS.F ht⟩) hS.2.2 (show decode (mB 7) 17 = .ok (.return_, 1) from by decide +kernel) hlocks
abbrev at_Planner (dC : Nat → ClassId) (dI : Nat → Nat → Nat) (A : Nat → Prop) (h0 : Nat) (_ : Unit) (t : State) : Prop := ∃ (q1 : Nat) (c1 : ClassId) (q2 : Nat) (c2 : ClassId), va_P (dC, dI) clA [(h0, .inr (2, [.ref q1, .ref q2])), (q1, .inl (c1, 72, .inl (fun _ => 0))), (q2, .inl (c2, 108, .inl (fun _ => 0)))] t.heap ∧ va_K (dC, dI) clA [(c1, .int), (c2, .int)] t ∧ va_D A [(h0, .inr (2, [.ref q1, .ref q2])), (q1, .inl (c1, 72, .inl (fun _ => 0))), (q2, .inl (c2, 108, .inl (fun _ => 0)))]
set_option maxHeartbeats 4000000 in
set_option maxRecDepth 100000 in
theorem c_Planner (l : Launch) (dC : Nat → ClassId) (dI : Nat → Nat → Nat) (h0 : Nat) (sz : Nat) : Met l (mY 6) (wsJ 6) ({ frames := 1, cells := 2, slots := 180, locals := 20 }) (va_Pc [.ref h0] (fun U => U.heap.size = sz ∧ va_P (dC, dI) clA [(h0, .inr (2, [.null, .null]))] U.heap ∧ va_K (dC, dI) clA [] U ∧ va_D (fun _ => True) [(h0, .inr (2, [.null, .null]))])) (va_Qv (fun _ : Unit => True) (at_Planner dC dI (va_A [(h0, .inr (2, [.null, .null]))] sz) h0) (va_A [(h0, .inr (2, [.null, .null]))] sz)) 2 180 (va_A [(h0, .inr (2, [.null, .null]))] sz) := by
  refine Met.ofW (cc := mB 6) (maxL := 1) (ret := none) (by decide +kernel) rfl ?_
  intro p e s m args below meth c s₁ B hml hv
  obtain ⟨rfl, hsz, hP, hK, hD0⟩ := hv
  have hx := B.exec
  have hb := B.bytes
  have hr := B.returns
  have hts0 := atoms_spec (ws := wsJ 6) B.pre
  have hts : ∀ w ∈ tbG, w.before ([.ref h0] : List Value).toArray s = true := fun w h => hts0 w (List.mem_cons_of_mem _ h)
  have hown : s.vm.findClass "GearRoad$Planner" = some m.cls := findClass_of_methodNamed B.named
  have hlocks := B.notSynchronized
  have hin : meth.name = "<init>" := (name_of_methodNamed B.named B.method).1
  subst hsz
  have hD := hD0.self (sz := s.heap.size)
  generalize hAe : va_A [(h0, .inr (2, [.null, .null]))] s.heap.size = A at hD ⊢
  have hA : ∀ q : Nat, s.heap.size ≤ q → A q := fun q h => by rw [← hAe]; exact Or.inr h
  have hS : va_S A s.heap s.heap [] := va_S.rf
  have hP : va_P (dC, dI) clA [(h0, .inr (2, [.null, .null]))] s.heap := hP
  have hl := lv_entry ([.ref h0]) (n := 1) (Nat.le_of_ble_eq_true rfl)
  rw [lg_entry_eq]
  generalize (lg_sl ([.ref h0]) ++ List.replicate (1 - (lg_sl ([.ref h0])).length) Slot.unset).toArray = ls at hl ⊢
  have hl : lv_has ls 1 [(0, .ref h0)] := hl
  refine lv_aload_n hx hb (show decode (mB 6) 0 = .ok (.aload_n 0, 1) from by decide +kernel) rfl (lv_at hl 0 rfl) ?_
  refine W.objInit hx hb hown (hts (.methodLink "GearRoad$Planner" 3 objectInit) (wq _ 230 (by decide +kernel) rfl)) (hts (.instanceMethod objectInit) (wq _ 78 (by decide +kernel) rfl)) (hts _ (wq (.code objectInit ⟨#[0xb1]⟩ 1 none) 79 (by decide +kernel) rfl)) rfl (by rw [hml]; exact hl.1) rfl (show decode (mB 6) 1 = .ok (.invokespecial 3, 3) from by decide +kernel) (Nat.le_of_ble_eq_true rfl) (Nat.le_of_ble_eq_true rfl) ?_
  refine W.eq (g2 := F0 m 4 ls []) rfl ?_
  refine lv_aload_n hx hb (show decode (mB 6) 4 = .ok (.aload_n 0, 1) from by decide +kernel) rfl (lv_at hl 0 rfl) ?_
  refine lv_bipush (v := 72) hx hb (show decode (mB 6) 5 = .ok (.bipush 72, 2) from by decide +kernel) (by decide) ?_
  refine va_newa (atype := .int) (ty := .int) (a0 := (72, .inl (fun _ => 0))) (N' := 72) hx hb (hts (.arrayClass .int) (wq _ 98 (by decide +kernel) rfl)) rfl hK hP hD hS hA (fun _ => rfl) (by decide) (by decide) (Nat.le_of_ble_eq_true rfl) (Nat.le_of_ble_eq_true rfl) (Nat.le_of_ble_eq_true rfl) (show decode (mB 6) 7 = .ok (.newarray .int, 2) from by decide +kernel) (fun q1 c1 H hK hP hD hS => ?_)
  have hP : va_P (dC, dI) clA [(h0, .inr (2, [.null, .null])), (q1, .inl (c1, 72, .inl (fun _ => 0)))] H := hP
  have hD : va_D A [(h0, .inr (2, [.null, .null])), (q1, .inl (c1, 72, .inl (fun _ => 0)))] := hD
  have hK : va_K (dC, dI) clA [(c1, .int)] s := hK
  refine W.widen (k := 1) (n := 72) (Nat.le_of_ble_eq_true rfl) (Nat.le_of_ble_eq_true rfl) ?_
  refine va_putF (D := (dC, dI)) (ci := 2) (v := .ref q1) (ty := tyX2 0) (C := RX2) (T := TX2) (N := 2) hx hb hts cl_in2 tyX2 tyX2_ok nmX2 hown hK hP hD hS 0 rfl rfl 0 (by decide) (hts (.fieldLink "GearRoad$Planner" 9 "GearRoad$Planner" "costs" "[I") (wq _ 231 (by decide +kernel) rfl)) (fun _ h9 => h9) rfl hin rfl (tyX2_ok 0 (by decide)) rfl rfl (Nat.le_of_ble_eq_true rfl) (show decode (mB 6) 9 = .ok (.putfield 9, 3) from by decide +kernel) (fun H locs hP hD hS => ?_)
  have hP : va_P (dC, dI) clA [(h0, .inr (2, [.ref q1, .null])), (q1, .inl (c1, 72, .inl (fun _ => 0)))] H := hP
  have hD : va_D A [(h0, .inr (2, [.ref q1, .null])), (q1, .inl (c1, 72, .inl (fun _ => 0)))] := hD
  refine lv_aload_n hx hb (show decode (mB 6) 12 = .ok (.aload_n 0, 1) from by decide +kernel) rfl (lv_at hl 0 rfl) ?_
  refine lv_bipush (v := 108) hx hb (show decode (mB 6) 13 = .ok (.bipush 108, 2) from by decide +kernel) (by decide) ?_
  refine va_newa (atype := .int) (ty := .int) (a0 := (108, .inl (fun _ => 0))) (N' := 108) hx hb (hts (.arrayClass .int) (wq _ 98 (by decide +kernel) rfl)) rfl hK hP hD hS hA (fun _ => rfl) (by decide) (by decide) (Nat.le_of_ble_eq_true rfl) (Nat.le_of_ble_eq_true rfl) (Nat.le_of_ble_eq_true rfl) (show decode (mB 6) 15 = .ok (.newarray .int, 2) from by decide +kernel) (fun q2 c2 H hK hP hD hS => ?_)
  have hP : va_P (dC, dI) clA [(h0, .inr (2, [.ref q1, .null])), (q1, .inl (c1, 72, .inl (fun _ => 0))), (q2, .inl (c2, 108, .inl (fun _ => 0)))] H := hP
  have hD : va_D A [(h0, .inr (2, [.ref q1, .null])), (q1, .inl (c1, 72, .inl (fun _ => 0))), (q2, .inl (c2, 108, .inl (fun _ => 0)))] := hD
  have hK : va_K (dC, dI) clA [(c1, .int), (c2, .int)] s := hK
  refine W.widen (k := 2) (n := 180) (Nat.le_of_ble_eq_true rfl) (Nat.le_of_ble_eq_true rfl) ?_
  refine va_putF (D := (dC, dI)) (ci := 2) (v := .ref q2) (ty := tyX2 1) (C := RX2) (T := TX2) (N := 2) hx hb hts cl_in2 tyX2 tyX2_ok nmX2 hown hK hP hD hS 0 rfl rfl 1 (by decide) (hts (.fieldLink "GearRoad$Planner" 15 "GearRoad$Planner" "needs" "[I") (wq _ 232 (by decide +kernel) rfl)) (fun _ h9 => h9) rfl hin rfl (tyX2_ok 1 (by decide)) rfl rfl (Nat.le_of_ble_eq_true rfl) (show decode (mB 6) 17 = .ok (.putfield 15, 3) from by decide +kernel) (fun H locs hP hD hS => ?_)
  have hP : va_P (dC, dI) clA [(h0, .inr (2, [.ref q1, .ref q2])), (q1, .inl (c1, 72, .inl (fun _ => 0))), (q2, .inl (c2, 108, .inl (fun _ => 0)))] H := hP
  have hD : va_D A [(h0, .inr (2, [.ref q1, .ref q2])), (q1, .inl (c1, 72, .inl (fun _ => 0))), (q2, .inl (c2, 108, .inl (fun _ => 0)))] := hD
  exact W.vret hx hb hr (fun t ht hW => ⟨⟨(), rfl, trivial, q1, c1, q2, c2, by rw [ht]; exact hP, va_K.moved hW.alike hK, hD⟩, hS.F ht⟩) hS.2.2 (show decode (mB 6) 20 = .ok (.return_, 1) from by decide +kernel) hlocks
abbrev at_Tape (dC : Nat → ClassId) (dI : Nat → Nat → Nat) (A : Nat → Prop) (h0 : Nat) (_ : Unit) (t : State) : Prop := ∃ (q1 : Nat) (c1 : ClassId), va_P (dC, dI) clA [(h0, .inr (4, [.ref q1, .int 0, .int 0, .int 0, .int 0])), (q1, .inl (c1, 80, .inl (fun _ => 0)))] t.heap ∧ va_K (dC, dI) clA [(c1, .int)] t ∧ va_D A [(h0, .inr (4, [.ref q1, .int 0, .int 0, .int 0, .int 0])), (q1, .inl (c1, 80, .inl (fun _ => 0)))]
set_option maxHeartbeats 4000000 in
set_option maxRecDepth 100000 in
theorem c_Tape (l : Launch) (dC : Nat → ClassId) (dI : Nat → Nat → Nat) (h0 : Nat) (sz : Nat) : Met l (mY 3) (wsJ 3) ({ frames := 1, cells := 1, slots := 80, locals := 20 }) (va_Pc [.ref h0] (fun U => U.heap.size = sz ∧ va_P (dC, dI) clA [(h0, .inr (4, [.null, .int 0, .int 0, .int 0, .int 0]))] U.heap ∧ va_K (dC, dI) clA [] U ∧ va_D (fun _ => True) [(h0, .inr (4, [.null, .int 0, .int 0, .int 0, .int 0]))])) (va_Qv (fun _ : Unit => True) (at_Tape dC dI (va_A [(h0, .inr (4, [.null, .int 0, .int 0, .int 0, .int 0]))] sz) h0) (va_A [(h0, .inr (4, [.null, .int 0, .int 0, .int 0, .int 0]))] sz)) 1 80 (va_A [(h0, .inr (4, [.null, .int 0, .int 0, .int 0, .int 0]))] sz) := by
  refine Met.ofW (cc := mB 3) (maxL := 1) (ret := none) (by decide +kernel) rfl ?_
  intro p e s m args below meth c s₁ B hml hv
  obtain ⟨rfl, hsz, hP, hK, hD0⟩ := hv
  have hx := B.exec
  have hb := B.bytes
  have hr := B.returns
  have hts0 := atoms_spec (ws := wsJ 3) B.pre
  have hts : ∀ w ∈ tbG, w.before ([.ref h0] : List Value).toArray s = true := fun w h => hts0 w (List.mem_cons_of_mem _ h)
  have hown : s.vm.findClass "GearRoad$Tape" = some m.cls := findClass_of_methodNamed B.named
  have hlocks := B.notSynchronized
  have hin : meth.name = "<init>" := (name_of_methodNamed B.named B.method).1
  subst hsz
  have hD := hD0.self (sz := s.heap.size)
  generalize hAe : va_A [(h0, .inr (4, [.null, .int 0, .int 0, .int 0, .int 0]))] s.heap.size = A at hD ⊢
  have hA : ∀ q : Nat, s.heap.size ≤ q → A q := fun q h => by rw [← hAe]; exact Or.inr h
  have hS : va_S A s.heap s.heap [] := va_S.rf
  have hP : va_P (dC, dI) clA [(h0, .inr (4, [.null, .int 0, .int 0, .int 0, .int 0]))] s.heap := hP
  have hl := lv_entry ([.ref h0]) (n := 1) (Nat.le_of_ble_eq_true rfl)
  rw [lg_entry_eq]
  generalize (lg_sl ([.ref h0]) ++ List.replicate (1 - (lg_sl ([.ref h0])).length) Slot.unset).toArray = ls at hl ⊢
  have hl : lv_has ls 1 [(0, .ref h0)] := hl
  refine lv_aload_n hx hb (show decode (mB 3) 0 = .ok (.aload_n 0, 1) from by decide +kernel) rfl (lv_at hl 0 rfl) ?_
  refine W.objInit hx hb hown (hts (.methodLink "GearRoad$Tape" 3 objectInit) (wq _ 104 (by decide +kernel) rfl)) (hts (.instanceMethod objectInit) (wq _ 78 (by decide +kernel) rfl)) (hts _ (wq (.code objectInit ⟨#[0xb1]⟩ 1 none) 79 (by decide +kernel) rfl)) rfl (by rw [hml]; exact hl.1) rfl (show decode (mB 3) 1 = .ok (.invokespecial 3, 3) from by decide +kernel) (Nat.le_of_ble_eq_true rfl) (Nat.le_of_ble_eq_true rfl) ?_
  refine W.eq (g2 := F0 m 4 ls []) rfl ?_
  refine lv_aload_n hx hb (show decode (mB 3) 4 = .ok (.aload_n 0, 1) from by decide +kernel) rfl (lv_at hl 0 rfl) ?_
  refine lv_bipush (v := 80) hx hb (show decode (mB 3) 5 = .ok (.bipush 80, 2) from by decide +kernel) (by decide) ?_
  refine va_newa (atype := .int) (ty := .int) (a0 := (80, .inl (fun _ => 0))) (N' := 80) hx hb (hts (.arrayClass .int) (wq _ 98 (by decide +kernel) rfl)) rfl hK hP hD hS hA (fun _ => rfl) (by decide) (by decide) (Nat.le_of_ble_eq_true rfl) (Nat.le_of_ble_eq_true rfl) (Nat.le_of_ble_eq_true rfl) (show decode (mB 3) 7 = .ok (.newarray .int, 2) from by decide +kernel) (fun q1 c1 H hK hP hD hS => ?_)
  have hP : va_P (dC, dI) clA [(h0, .inr (4, [.null, .int 0, .int 0, .int 0, .int 0])), (q1, .inl (c1, 80, .inl (fun _ => 0)))] H := hP
  have hD : va_D A [(h0, .inr (4, [.null, .int 0, .int 0, .int 0, .int 0])), (q1, .inl (c1, 80, .inl (fun _ => 0)))] := hD
  have hK : va_K (dC, dI) clA [(c1, .int)] s := hK
  refine W.widen (k := 1) (n := 80) (Nat.le_of_ble_eq_true rfl) (Nat.le_of_ble_eq_true rfl) ?_
  refine va_putF (D := (dC, dI)) (ci := 4) (v := .ref q1) (ty := tyX4 0) (C := RX4) (T := TX4) (N := 5) hx hb hts cl_in4 tyX4 tyX4_ok nmX4 hown hK hP hD hS 0 rfl rfl 0 (by decide) (hts (.fieldLink "GearRoad$Tape" 11 "GearRoad$Tape" "bytes" "[I") (wq _ 105 (by decide +kernel) rfl)) (fun _ h9 => h9) rfl hin rfl (tyX4_ok 0 (by decide)) rfl rfl (Nat.le_of_ble_eq_true rfl) (show decode (mB 3) 9 = .ok (.putfield 11, 3) from by decide +kernel) (fun H locs hP hD hS => ?_)
  have hP : va_P (dC, dI) clA [(h0, .inr (4, [.ref q1, .int 0, .int 0, .int 0, .int 0])), (q1, .inl (c1, 80, .inl (fun _ => 0)))] H := hP
  have hD : va_D A [(h0, .inr (4, [.ref q1, .int 0, .int 0, .int 0, .int 0])), (q1, .inl (c1, 80, .inl (fun _ => 0)))] := hD
  refine lv_aload_n hx hb (show decode (mB 3) 12 = .ok (.aload_n 0, 1) from by decide +kernel) rfl (lv_at hl 0 rfl) ?_
  refine lv_iconst (v := 0) hx hb (show decode (mB 3) 13 = .ok (.iconst 0, 1) from by decide +kernel) (by decide) ?_
  refine va_put (D := (dC, dI)) (ci := 4) (v := .int 0) (ty := tyX4 1) (C := RX4) (T := TX4) (N := 5) hx hb hts cl_in4 tyX4 tyX4_ok nmX4 hown hK hP hD hS 0 rfl rfl 1 (by decide) (hts (.fieldLink "GearRoad$Tape" 15 "GearRoad$Tape" "size" "I") (wq _ 106 (by decide +kernel) rfl)) (fun _ h9 => h9) rfl (tyX4_ok 1 (by decide)) rfl rfl (Nat.le_of_ble_eq_true rfl) (show decode (mB 3) 14 = .ok (.putfield 15, 3) from by decide +kernel) (fun H locs hP hD hS => ?_)
  have hP : va_P (dC, dI) clA [(h0, .inr (4, [.ref q1, .int 0, .int 0, .int 0, .int 0])), (q1, .inl (c1, 80, .inl (fun _ => 0)))] H := hP
  have hD : va_D A [(h0, .inr (4, [.ref q1, .int 0, .int 0, .int 0, .int 0])), (q1, .inl (c1, 80, .inl (fun _ => 0)))] := hD
  refine lv_aload_n hx hb (show decode (mB 3) 17 = .ok (.aload_n 0, 1) from by decide +kernel) rfl (lv_at hl 0 rfl) ?_
  refine lv_iconst (v := 0) hx hb (show decode (mB 3) 18 = .ok (.iconst 0, 1) from by decide +kernel) (by decide) ?_
  refine va_put (D := (dC, dI)) (ci := 4) (v := .int 0) (ty := tyX4 2) (C := RX4) (T := TX4) (N := 5) hx hb hts cl_in4 tyX4 tyX4_ok nmX4 hown hK hP hD hS 0 rfl rfl 2 (by decide) (hts (.fieldLink "GearRoad$Tape" 19 "GearRoad$Tape" "at" "I") (wq _ 108 (by decide +kernel) rfl)) (fun _ h9 => h9) rfl (tyX4_ok 2 (by decide)) rfl rfl (Nat.le_of_ble_eq_true rfl) (show decode (mB 3) 19 = .ok (.putfield 19, 3) from by decide +kernel) (fun H locs hP hD hS => ?_)
  have hP : va_P (dC, dI) clA [(h0, .inr (4, [.ref q1, .int 0, .int 0, .int 0, .int 0])), (q1, .inl (c1, 80, .inl (fun _ => 0)))] H := hP
  have hD : va_D A [(h0, .inr (4, [.ref q1, .int 0, .int 0, .int 0, .int 0])), (q1, .inl (c1, 80, .inl (fun _ => 0)))] := hD
  refine lv_aload_n hx hb (show decode (mB 3) 22 = .ok (.aload_n 0, 1) from by decide +kernel) rfl (lv_at hl 0 rfl) ?_
  refine lv_iconst (v := 0) hx hb (show decode (mB 3) 23 = .ok (.iconst 0, 1) from by decide +kernel) (by decide) ?_
  refine va_put (D := (dC, dI)) (ci := 4) (v := .int 0) (ty := tyX4 3) (C := RX4) (T := TX4) (N := 5) hx hb hts cl_in4 tyX4 tyX4_ok nmX4 hown hK hP hD hS 0 rfl rfl 3 (by decide) (hts (.fieldLink "GearRoad$Tape" 22 "GearRoad$Tape" "fault" "I") (wq _ 109 (by decide +kernel) rfl)) (fun _ h9 => h9) rfl (tyX4_ok 3 (by decide)) rfl rfl (Nat.le_of_ble_eq_true rfl) (show decode (mB 3) 24 = .ok (.putfield 22, 3) from by decide +kernel) (fun H locs hP hD hS => ?_)
  have hP : va_P (dC, dI) clA [(h0, .inr (4, [.ref q1, .int 0, .int 0, .int 0, .int 0])), (q1, .inl (c1, 80, .inl (fun _ => 0)))] H := hP
  have hD : va_D A [(h0, .inr (4, [.ref q1, .int 0, .int 0, .int 0, .int 0])), (q1, .inl (c1, 80, .inl (fun _ => 0)))] := hD
  refine lv_aload_n hx hb (show decode (mB 3) 27 = .ok (.aload_n 0, 1) from by decide +kernel) rfl (lv_at hl 0 rfl) ?_
  refine lv_iconst (v := 0) hx hb (show decode (mB 3) 28 = .ok (.iconst 0, 1) from by decide +kernel) (by decide) ?_
  refine va_put (D := (dC, dI)) (ci := 4) (v := .int 0) (ty := tyX4 4) (C := RX4) (T := TX4) (N := 5) hx hb hts cl_in4 tyX4 tyX4_ok nmX4 hown hK hP hD hS 0 rfl rfl 4 (by decide) (hts (.fieldLink "GearRoad$Tape" 25 "GearRoad$Tape" "place" "I") (wq _ 111 (by decide +kernel) rfl)) (fun _ h9 => h9) rfl (tyX4_ok 4 (by decide)) rfl rfl (Nat.le_of_ble_eq_true rfl) (show decode (mB 3) 29 = .ok (.putfield 25, 3) from by decide +kernel) (fun H locs hP hD hS => ?_)
  have hP : va_P (dC, dI) clA [(h0, .inr (4, [.ref q1, .int 0, .int 0, .int 0, .int 0])), (q1, .inl (c1, 80, .inl (fun _ => 0)))] H := hP
  have hD : va_D A [(h0, .inr (4, [.ref q1, .int 0, .int 0, .int 0, .int 0])), (q1, .inl (c1, 80, .inl (fun _ => 0)))] := hD
  exact W.vret hx hb hr (fun t ht hW => ⟨⟨(), rfl, trivial, q1, c1, by rw [ht]; exact hP, va_K.moved hW.alike hK, hD⟩, hS.F ht⟩) hS.2.2 (show decode (mB 3) 32 = .ok (.return_, 1) from by decide +kernel) hlocks
abbrev at_Rows (dC : Nat → ClassId) (dI : Nat → Nat → Nat) (A : Nat → Prop) (h0 : Nat) (_ : Unit) (t : State) : Prop := ∃ (q1 : Nat) (c1 : ClassId) (q2 : Nat) (c2 : ClassId) (q3 : Nat) (c3 : ClassId), va_P (dC, dI) clA [(h0, .inr (3, [.ref q1, .ref q2, .ref q3])), (q1, .inl (c1, 8, .inl (upd (upd (upd (upd (upd (upd (upd (upd (fun _ => 0) (Int32.toNatClampNeg 0) (-1)) (Int32.toNatClampNeg 1) (-1)) (Int32.toNatClampNeg 2) (-1)) (Int32.toNatClampNeg 3) (-1)) (Int32.toNatClampNeg 4) (-1)) (Int32.toNatClampNeg 5) (-1)) (Int32.toNatClampNeg 6) (-1)) (Int32.toNatClampNeg 7) (-1)))), (q2, .inl (c2, 8, .inl (fun _ => 0))), (q3, .inl (c3, 320, .inl (fun _ => 0)))] t.heap ∧ va_K (dC, dI) clA [(c1, .int), (c2, .int), (c3, .int)] t ∧ va_D A [(h0, .inr (3, [.ref q1, .ref q2, .ref q3])), (q1, .inl (c1, 8, .inl (upd (upd (upd (upd (upd (upd (upd (upd (fun _ => 0) (Int32.toNatClampNeg 0) (-1)) (Int32.toNatClampNeg 1) (-1)) (Int32.toNatClampNeg 2) (-1)) (Int32.toNatClampNeg 3) (-1)) (Int32.toNatClampNeg 4) (-1)) (Int32.toNatClampNeg 5) (-1)) (Int32.toNatClampNeg 6) (-1)) (Int32.toNatClampNeg 7) (-1)))), (q2, .inl (c2, 8, .inl (fun _ => 0))), (q3, .inl (c3, 320, .inl (fun _ => 0)))]
set_option maxHeartbeats 4000000 in
set_option maxRecDepth 100000 in
theorem c_Rows (l : Launch) (dC : Nat → ClassId) (dI : Nat → Nat → Nat) (h0 : Nat) (sz : Nat) : Met l (mY 2) (wsJ 2) ({ frames := 1, cells := 3, slots := 336, locals := 20 }) (va_Pc [.ref h0] (fun U => U.heap.size = sz ∧ va_P (dC, dI) clA [(h0, .inr (3, [.null, .null, .null]))] U.heap ∧ va_K (dC, dI) clA [] U ∧ va_D (fun _ => True) [(h0, .inr (3, [.null, .null, .null]))])) (va_Qv (fun _ : Unit => True) (at_Rows dC dI (va_A [(h0, .inr (3, [.null, .null, .null]))] sz) h0) (va_A [(h0, .inr (3, [.null, .null, .null]))] sz)) 3 336 (va_A [(h0, .inr (3, [.null, .null, .null]))] sz) := by
  refine Met.ofW (cc := mB 2) (maxL := 1) (ret := none) (by decide +kernel) rfl ?_
  intro p e s m args below meth c s₁ B hml hv
  obtain ⟨rfl, hsz, hP, hK, hD0⟩ := hv
  have hx := B.exec
  have hb := B.bytes
  have hr := B.returns
  have hts0 := atoms_spec (ws := wsJ 2) B.pre
  have hts : ∀ w ∈ tbG, w.before ([.ref h0] : List Value).toArray s = true := fun w h => hts0 w (List.mem_cons_of_mem _ h)
  have hown : s.vm.findClass "GearRoad$Rows" = some m.cls := findClass_of_methodNamed B.named
  have hlocks := B.notSynchronized
  have hin : meth.name = "<init>" := (name_of_methodNamed B.named B.method).1
  subst hsz
  have hD := hD0.self (sz := s.heap.size)
  generalize hAe : va_A [(h0, .inr (3, [.null, .null, .null]))] s.heap.size = A at hD ⊢
  have hA : ∀ q : Nat, s.heap.size ≤ q → A q := fun q h => by rw [← hAe]; exact Or.inr h
  have hS : va_S A s.heap s.heap [] := va_S.rf
  have hP : va_P (dC, dI) clA [(h0, .inr (3, [.null, .null, .null]))] s.heap := hP
  have hl := lv_entry ([.ref h0]) (n := 1) (Nat.le_of_ble_eq_true rfl)
  rw [lg_entry_eq]
  generalize (lg_sl ([.ref h0]) ++ List.replicate (1 - (lg_sl ([.ref h0])).length) Slot.unset).toArray = ls at hl ⊢
  have hl : lv_has ls 1 [(0, .ref h0)] := hl
  refine lv_aload_n hx hb (show decode (mB 2) 0 = .ok (.aload_n 0, 1) from by decide +kernel) rfl (lv_at hl 0 rfl) ?_
  refine W.objInit hx hb hown (hts (.methodLink "GearRoad$Rows" 1 objectInit) (wq _ 85 (by decide +kernel) rfl)) (hts (.instanceMethod objectInit) (wq _ 78 (by decide +kernel) rfl)) (hts _ (wq (.code objectInit ⟨#[0xb1]⟩ 1 none) 79 (by decide +kernel) rfl)) rfl (by rw [hml]; exact hl.1) rfl (show decode (mB 2) 1 = .ok (.invokespecial 1, 3) from by decide +kernel) (Nat.le_of_ble_eq_true rfl) (Nat.le_of_ble_eq_true rfl) ?_
  refine W.eq (g2 := F0 m 4 ls []) rfl ?_
  refine lv_aload_n hx hb (show decode (mB 2) 4 = .ok (.aload_n 0, 1) from by decide +kernel) rfl (lv_at hl 0 rfl) ?_
  refine lv_bipush (v := 8) hx hb (show decode (mB 2) 5 = .ok (.bipush 8, 2) from by decide +kernel) (by decide) ?_
  refine va_newa (atype := .int) (ty := .int) (a0 := (8, .inl (fun _ => 0))) (N' := 8) hx hb (hts (.arrayClass .int) (wq _ 98 (by decide +kernel) rfl)) rfl hK hP hD hS hA (fun _ => rfl) (by decide) (by decide) (Nat.le_of_ble_eq_true rfl) (Nat.le_of_ble_eq_true rfl) (Nat.le_of_ble_eq_true rfl) (show decode (mB 2) 7 = .ok (.newarray .int, 2) from by decide +kernel) (fun q1 c1 H hK hP hD hS => ?_)
  have hP : va_P (dC, dI) clA [(h0, .inr (3, [.null, .null, .null])), (q1, .inl (c1, 8, .inl (fun _ => 0)))] H := hP
  have hD : va_D A [(h0, .inr (3, [.null, .null, .null])), (q1, .inl (c1, 8, .inl (fun _ => 0)))] := hD
  have hK : va_K (dC, dI) clA [(c1, .int)] s := hK
  refine W.widen (k := 1) (n := 8) (Nat.le_of_ble_eq_true rfl) (Nat.le_of_ble_eq_true rfl) ?_
  refine lv_dup hx hb (show decode (mB 2) 9 = .ok (.dup, 1) from by decide +kernel) rfl ?_
  refine lv_iconst (v := 0) hx hb (show decode (mB 2) 10 = .ok (.iconst 0, 1) from by decide +kernel) (by decide) ?_
  refine lv_iconst (v := (-1)) hx hb (show decode (mB 2) 11 = .ok (.iconst (-1), 1) from by decide +kernel) (by decide) ?_
  refine va_iast hx hb hK hP hD hS 1 0 rfl rfl (i := 0) (x := (-1)) (vp_lit (by decide)) (show decode (mB 2) 12 = .ok (.iastore, 1) from by decide +kernel) (fun H locs hP hD hS => ?_)
  have hP : va_P (dC, dI) clA [(h0, .inr (3, [.null, .null, .null])), (q1, .inl (c1, 8, .inl (upd (fun _ => 0) (Int32.toNatClampNeg 0) (-1))))] H := hP
  have hD : va_D A [(h0, .inr (3, [.null, .null, .null])), (q1, .inl (c1, 8, .inl (upd (fun _ => 0) (Int32.toNatClampNeg 0) (-1))))] := hD
  refine lv_dup hx hb (show decode (mB 2) 13 = .ok (.dup, 1) from by decide +kernel) rfl ?_
  refine lv_iconst (v := 1) hx hb (show decode (mB 2) 14 = .ok (.iconst 1, 1) from by decide +kernel) (by decide) ?_
  refine lv_iconst (v := (-1)) hx hb (show decode (mB 2) 15 = .ok (.iconst (-1), 1) from by decide +kernel) (by decide) ?_
  refine va_iast hx hb hK hP hD hS 1 0 rfl rfl (i := 1) (x := (-1)) (vp_lit (by decide)) (show decode (mB 2) 16 = .ok (.iastore, 1) from by decide +kernel) (fun H locs hP hD hS => ?_)
  have hP : va_P (dC, dI) clA [(h0, .inr (3, [.null, .null, .null])), (q1, .inl (c1, 8, .inl (upd (upd (fun _ => 0) (Int32.toNatClampNeg 0) (-1)) (Int32.toNatClampNeg 1) (-1))))] H := hP
  have hD : va_D A [(h0, .inr (3, [.null, .null, .null])), (q1, .inl (c1, 8, .inl (upd (upd (fun _ => 0) (Int32.toNatClampNeg 0) (-1)) (Int32.toNatClampNeg 1) (-1))))] := hD
  refine lv_dup hx hb (show decode (mB 2) 17 = .ok (.dup, 1) from by decide +kernel) rfl ?_
  refine lv_iconst (v := 2) hx hb (show decode (mB 2) 18 = .ok (.iconst 2, 1) from by decide +kernel) (by decide) ?_
  refine lv_iconst (v := (-1)) hx hb (show decode (mB 2) 19 = .ok (.iconst (-1), 1) from by decide +kernel) (by decide) ?_
  refine va_iast hx hb hK hP hD hS 1 0 rfl rfl (i := 2) (x := (-1)) (vp_lit (by decide)) (show decode (mB 2) 20 = .ok (.iastore, 1) from by decide +kernel) (fun H locs hP hD hS => ?_)
  have hP : va_P (dC, dI) clA [(h0, .inr (3, [.null, .null, .null])), (q1, .inl (c1, 8, .inl (upd (upd (upd (fun _ => 0) (Int32.toNatClampNeg 0) (-1)) (Int32.toNatClampNeg 1) (-1)) (Int32.toNatClampNeg 2) (-1))))] H := hP
  have hD : va_D A [(h0, .inr (3, [.null, .null, .null])), (q1, .inl (c1, 8, .inl (upd (upd (upd (fun _ => 0) (Int32.toNatClampNeg 0) (-1)) (Int32.toNatClampNeg 1) (-1)) (Int32.toNatClampNeg 2) (-1))))] := hD
  refine lv_dup hx hb (show decode (mB 2) 21 = .ok (.dup, 1) from by decide +kernel) rfl ?_
  refine lv_iconst (v := 3) hx hb (show decode (mB 2) 22 = .ok (.iconst 3, 1) from by decide +kernel) (by decide) ?_
  refine lv_iconst (v := (-1)) hx hb (show decode (mB 2) 23 = .ok (.iconst (-1), 1) from by decide +kernel) (by decide) ?_
  refine va_iast hx hb hK hP hD hS 1 0 rfl rfl (i := 3) (x := (-1)) (vp_lit (by decide)) (show decode (mB 2) 24 = .ok (.iastore, 1) from by decide +kernel) (fun H locs hP hD hS => ?_)
  have hP : va_P (dC, dI) clA [(h0, .inr (3, [.null, .null, .null])), (q1, .inl (c1, 8, .inl (upd (upd (upd (upd (fun _ => 0) (Int32.toNatClampNeg 0) (-1)) (Int32.toNatClampNeg 1) (-1)) (Int32.toNatClampNeg 2) (-1)) (Int32.toNatClampNeg 3) (-1))))] H := hP
  have hD : va_D A [(h0, .inr (3, [.null, .null, .null])), (q1, .inl (c1, 8, .inl (upd (upd (upd (upd (fun _ => 0) (Int32.toNatClampNeg 0) (-1)) (Int32.toNatClampNeg 1) (-1)) (Int32.toNatClampNeg 2) (-1)) (Int32.toNatClampNeg 3) (-1))))] := hD
  refine lv_dup hx hb (show decode (mB 2) 25 = .ok (.dup, 1) from by decide +kernel) rfl ?_
  refine lv_iconst (v := 4) hx hb (show decode (mB 2) 26 = .ok (.iconst 4, 1) from by decide +kernel) (by decide) ?_
  refine lv_iconst (v := (-1)) hx hb (show decode (mB 2) 27 = .ok (.iconst (-1), 1) from by decide +kernel) (by decide) ?_
  refine va_iast hx hb hK hP hD hS 1 0 rfl rfl (i := 4) (x := (-1)) (vp_lit (by decide)) (show decode (mB 2) 28 = .ok (.iastore, 1) from by decide +kernel) (fun H locs hP hD hS => ?_)
  have hP : va_P (dC, dI) clA [(h0, .inr (3, [.null, .null, .null])), (q1, .inl (c1, 8, .inl (upd (upd (upd (upd (upd (fun _ => 0) (Int32.toNatClampNeg 0) (-1)) (Int32.toNatClampNeg 1) (-1)) (Int32.toNatClampNeg 2) (-1)) (Int32.toNatClampNeg 3) (-1)) (Int32.toNatClampNeg 4) (-1))))] H := hP
  have hD : va_D A [(h0, .inr (3, [.null, .null, .null])), (q1, .inl (c1, 8, .inl (upd (upd (upd (upd (upd (fun _ => 0) (Int32.toNatClampNeg 0) (-1)) (Int32.toNatClampNeg 1) (-1)) (Int32.toNatClampNeg 2) (-1)) (Int32.toNatClampNeg 3) (-1)) (Int32.toNatClampNeg 4) (-1))))] := hD
  refine lv_dup hx hb (show decode (mB 2) 29 = .ok (.dup, 1) from by decide +kernel) rfl ?_
  refine lv_iconst (v := 5) hx hb (show decode (mB 2) 30 = .ok (.iconst 5, 1) from by decide +kernel) (by decide) ?_
  refine lv_iconst (v := (-1)) hx hb (show decode (mB 2) 31 = .ok (.iconst (-1), 1) from by decide +kernel) (by decide) ?_
  refine va_iast hx hb hK hP hD hS 1 0 rfl rfl (i := 5) (x := (-1)) (vp_lit (by decide)) (show decode (mB 2) 32 = .ok (.iastore, 1) from by decide +kernel) (fun H locs hP hD hS => ?_)
  have hP : va_P (dC, dI) clA [(h0, .inr (3, [.null, .null, .null])), (q1, .inl (c1, 8, .inl (upd (upd (upd (upd (upd (upd (fun _ => 0) (Int32.toNatClampNeg 0) (-1)) (Int32.toNatClampNeg 1) (-1)) (Int32.toNatClampNeg 2) (-1)) (Int32.toNatClampNeg 3) (-1)) (Int32.toNatClampNeg 4) (-1)) (Int32.toNatClampNeg 5) (-1))))] H := hP
  have hD : va_D A [(h0, .inr (3, [.null, .null, .null])), (q1, .inl (c1, 8, .inl (upd (upd (upd (upd (upd (upd (fun _ => 0) (Int32.toNatClampNeg 0) (-1)) (Int32.toNatClampNeg 1) (-1)) (Int32.toNatClampNeg 2) (-1)) (Int32.toNatClampNeg 3) (-1)) (Int32.toNatClampNeg 4) (-1)) (Int32.toNatClampNeg 5) (-1))))] := hD
  refine lv_dup hx hb (show decode (mB 2) 33 = .ok (.dup, 1) from by decide +kernel) rfl ?_
  refine lv_bipush (v := 6) hx hb (show decode (mB 2) 34 = .ok (.bipush 6, 2) from by decide +kernel) (by decide) ?_
  refine lv_iconst (v := (-1)) hx hb (show decode (mB 2) 36 = .ok (.iconst (-1), 1) from by decide +kernel) (by decide) ?_
  refine va_iast hx hb hK hP hD hS 1 0 rfl rfl (i := 6) (x := (-1)) (vp_lit (by decide)) (show decode (mB 2) 37 = .ok (.iastore, 1) from by decide +kernel) (fun H locs hP hD hS => ?_)
  have hP : va_P (dC, dI) clA [(h0, .inr (3, [.null, .null, .null])), (q1, .inl (c1, 8, .inl (upd (upd (upd (upd (upd (upd (upd (fun _ => 0) (Int32.toNatClampNeg 0) (-1)) (Int32.toNatClampNeg 1) (-1)) (Int32.toNatClampNeg 2) (-1)) (Int32.toNatClampNeg 3) (-1)) (Int32.toNatClampNeg 4) (-1)) (Int32.toNatClampNeg 5) (-1)) (Int32.toNatClampNeg 6) (-1))))] H := hP
  have hD : va_D A [(h0, .inr (3, [.null, .null, .null])), (q1, .inl (c1, 8, .inl (upd (upd (upd (upd (upd (upd (upd (fun _ => 0) (Int32.toNatClampNeg 0) (-1)) (Int32.toNatClampNeg 1) (-1)) (Int32.toNatClampNeg 2) (-1)) (Int32.toNatClampNeg 3) (-1)) (Int32.toNatClampNeg 4) (-1)) (Int32.toNatClampNeg 5) (-1)) (Int32.toNatClampNeg 6) (-1))))] := hD
  refine lv_dup hx hb (show decode (mB 2) 38 = .ok (.dup, 1) from by decide +kernel) rfl ?_
  refine lv_bipush (v := 7) hx hb (show decode (mB 2) 39 = .ok (.bipush 7, 2) from by decide +kernel) (by decide) ?_
  refine lv_iconst (v := (-1)) hx hb (show decode (mB 2) 41 = .ok (.iconst (-1), 1) from by decide +kernel) (by decide) ?_
  refine va_iast hx hb hK hP hD hS 1 0 rfl rfl (i := 7) (x := (-1)) (vp_lit (by decide)) (show decode (mB 2) 42 = .ok (.iastore, 1) from by decide +kernel) (fun H locs hP hD hS => ?_)
  have hP : va_P (dC, dI) clA [(h0, .inr (3, [.null, .null, .null])), (q1, .inl (c1, 8, .inl (upd (upd (upd (upd (upd (upd (upd (upd (fun _ => 0) (Int32.toNatClampNeg 0) (-1)) (Int32.toNatClampNeg 1) (-1)) (Int32.toNatClampNeg 2) (-1)) (Int32.toNatClampNeg 3) (-1)) (Int32.toNatClampNeg 4) (-1)) (Int32.toNatClampNeg 5) (-1)) (Int32.toNatClampNeg 6) (-1)) (Int32.toNatClampNeg 7) (-1))))] H := hP
  have hD : va_D A [(h0, .inr (3, [.null, .null, .null])), (q1, .inl (c1, 8, .inl (upd (upd (upd (upd (upd (upd (upd (upd (fun _ => 0) (Int32.toNatClampNeg 0) (-1)) (Int32.toNatClampNeg 1) (-1)) (Int32.toNatClampNeg 2) (-1)) (Int32.toNatClampNeg 3) (-1)) (Int32.toNatClampNeg 4) (-1)) (Int32.toNatClampNeg 5) (-1)) (Int32.toNatClampNeg 6) (-1)) (Int32.toNatClampNeg 7) (-1))))] := hD
  refine va_putF (D := (dC, dI)) (ci := 3) (v := .ref q1) (ty := tyX3 0) (C := RX3) (T := TX3) (N := 3) hx hb hts cl_in3 tyX3 tyX3_ok nmX3 hown hK hP hD hS 0 rfl rfl 0 (by decide) (hts (.fieldLink "GearRoad$Rows" 9 "GearRoad$Rows" "lanes" "[I") (wq _ 86 (by decide +kernel) rfl)) (fun _ h9 => h9) rfl hin rfl (tyX3_ok 0 (by decide)) rfl rfl (Nat.le_of_ble_eq_true rfl) (show decode (mB 2) 43 = .ok (.putfield 9, 3) from by decide +kernel) (fun H locs hP hD hS => ?_)
  have hP : va_P (dC, dI) clA [(h0, .inr (3, [.ref q1, .null, .null])), (q1, .inl (c1, 8, .inl (upd (upd (upd (upd (upd (upd (upd (upd (fun _ => 0) (Int32.toNatClampNeg 0) (-1)) (Int32.toNatClampNeg 1) (-1)) (Int32.toNatClampNeg 2) (-1)) (Int32.toNatClampNeg 3) (-1)) (Int32.toNatClampNeg 4) (-1)) (Int32.toNatClampNeg 5) (-1)) (Int32.toNatClampNeg 6) (-1)) (Int32.toNatClampNeg 7) (-1))))] H := hP
  have hD : va_D A [(h0, .inr (3, [.ref q1, .null, .null])), (q1, .inl (c1, 8, .inl (upd (upd (upd (upd (upd (upd (upd (upd (fun _ => 0) (Int32.toNatClampNeg 0) (-1)) (Int32.toNatClampNeg 1) (-1)) (Int32.toNatClampNeg 2) (-1)) (Int32.toNatClampNeg 3) (-1)) (Int32.toNatClampNeg 4) (-1)) (Int32.toNatClampNeg 5) (-1)) (Int32.toNatClampNeg 6) (-1)) (Int32.toNatClampNeg 7) (-1))))] := hD
  refine lv_aload_n hx hb (show decode (mB 2) 46 = .ok (.aload_n 0, 1) from by decide +kernel) rfl (lv_at hl 0 rfl) ?_
  refine lv_bipush (v := 8) hx hb (show decode (mB 2) 47 = .ok (.bipush 8, 2) from by decide +kernel) (by decide) ?_
  refine va_newa (atype := .int) (ty := .int) (a0 := (8, .inl (fun _ => 0))) (N' := 8) hx hb (hts (.arrayClass .int) (wq _ 98 (by decide +kernel) rfl)) rfl hK hP hD hS hA (fun _ => rfl) (by decide) (by decide) (Nat.le_of_ble_eq_true rfl) (Nat.le_of_ble_eq_true rfl) (Nat.le_of_ble_eq_true rfl) (show decode (mB 2) 49 = .ok (.newarray .int, 2) from by decide +kernel) (fun q2 c2 H hK hP hD hS => ?_)
  have hP : va_P (dC, dI) clA [(h0, .inr (3, [.ref q1, .null, .null])), (q1, .inl (c1, 8, .inl (upd (upd (upd (upd (upd (upd (upd (upd (fun _ => 0) (Int32.toNatClampNeg 0) (-1)) (Int32.toNatClampNeg 1) (-1)) (Int32.toNatClampNeg 2) (-1)) (Int32.toNatClampNeg 3) (-1)) (Int32.toNatClampNeg 4) (-1)) (Int32.toNatClampNeg 5) (-1)) (Int32.toNatClampNeg 6) (-1)) (Int32.toNatClampNeg 7) (-1)))), (q2, .inl (c2, 8, .inl (fun _ => 0)))] H := hP
  have hD : va_D A [(h0, .inr (3, [.ref q1, .null, .null])), (q1, .inl (c1, 8, .inl (upd (upd (upd (upd (upd (upd (upd (upd (fun _ => 0) (Int32.toNatClampNeg 0) (-1)) (Int32.toNatClampNeg 1) (-1)) (Int32.toNatClampNeg 2) (-1)) (Int32.toNatClampNeg 3) (-1)) (Int32.toNatClampNeg 4) (-1)) (Int32.toNatClampNeg 5) (-1)) (Int32.toNatClampNeg 6) (-1)) (Int32.toNatClampNeg 7) (-1)))), (q2, .inl (c2, 8, .inl (fun _ => 0)))] := hD
  have hK : va_K (dC, dI) clA [(c1, .int), (c2, .int)] s := hK
  refine W.widen (k := 2) (n := 16) (Nat.le_of_ble_eq_true rfl) (Nat.le_of_ble_eq_true rfl) ?_
  refine va_putF (D := (dC, dI)) (ci := 3) (v := .ref q2) (ty := tyX3 1) (C := RX3) (T := TX3) (N := 3) hx hb hts cl_in3 tyX3 tyX3_ok nmX3 hown hK hP hD hS 0 rfl rfl 1 (by decide) (hts (.fieldLink "GearRoad$Rows" 13 "GearRoad$Rows" "sizes" "[I") (wq _ 88 (by decide +kernel) rfl)) (fun _ h9 => h9) rfl hin rfl (tyX3_ok 1 (by decide)) rfl rfl (Nat.le_of_ble_eq_true rfl) (show decode (mB 2) 51 = .ok (.putfield 13, 3) from by decide +kernel) (fun H locs hP hD hS => ?_)
  have hP : va_P (dC, dI) clA [(h0, .inr (3, [.ref q1, .ref q2, .null])), (q1, .inl (c1, 8, .inl (upd (upd (upd (upd (upd (upd (upd (upd (fun _ => 0) (Int32.toNatClampNeg 0) (-1)) (Int32.toNatClampNeg 1) (-1)) (Int32.toNatClampNeg 2) (-1)) (Int32.toNatClampNeg 3) (-1)) (Int32.toNatClampNeg 4) (-1)) (Int32.toNatClampNeg 5) (-1)) (Int32.toNatClampNeg 6) (-1)) (Int32.toNatClampNeg 7) (-1)))), (q2, .inl (c2, 8, .inl (fun _ => 0)))] H := hP
  have hD : va_D A [(h0, .inr (3, [.ref q1, .ref q2, .null])), (q1, .inl (c1, 8, .inl (upd (upd (upd (upd (upd (upd (upd (upd (fun _ => 0) (Int32.toNatClampNeg 0) (-1)) (Int32.toNatClampNeg 1) (-1)) (Int32.toNatClampNeg 2) (-1)) (Int32.toNatClampNeg 3) (-1)) (Int32.toNatClampNeg 4) (-1)) (Int32.toNatClampNeg 5) (-1)) (Int32.toNatClampNeg 6) (-1)) (Int32.toNatClampNeg 7) (-1)))), (q2, .inl (c2, 8, .inl (fun _ => 0)))] := hD
  refine lv_aload_n hx hb (show decode (mB 2) 54 = .ok (.aload_n 0, 1) from by decide +kernel) rfl (lv_at hl 0 rfl) ?_
  refine lv_sipush (v := 320) hx hb (show decode (mB 2) 55 = .ok (.sipush 320, 3) from by decide +kernel) (by decide) ?_
  refine va_newa (atype := .int) (ty := .int) (a0 := (320, .inl (fun _ => 0))) (N' := 320) hx hb (hts (.arrayClass .int) (wq _ 98 (by decide +kernel) rfl)) rfl hK hP hD hS hA (fun _ => rfl) (by decide) (by decide) (Nat.le_of_ble_eq_true rfl) (Nat.le_of_ble_eq_true rfl) (Nat.le_of_ble_eq_true rfl) (show decode (mB 2) 58 = .ok (.newarray .int, 2) from by decide +kernel) (fun q3 c3 H hK hP hD hS => ?_)
  have hP : va_P (dC, dI) clA [(h0, .inr (3, [.ref q1, .ref q2, .null])), (q1, .inl (c1, 8, .inl (upd (upd (upd (upd (upd (upd (upd (upd (fun _ => 0) (Int32.toNatClampNeg 0) (-1)) (Int32.toNatClampNeg 1) (-1)) (Int32.toNatClampNeg 2) (-1)) (Int32.toNatClampNeg 3) (-1)) (Int32.toNatClampNeg 4) (-1)) (Int32.toNatClampNeg 5) (-1)) (Int32.toNatClampNeg 6) (-1)) (Int32.toNatClampNeg 7) (-1)))), (q2, .inl (c2, 8, .inl (fun _ => 0))), (q3, .inl (c3, 320, .inl (fun _ => 0)))] H := hP
  have hD : va_D A [(h0, .inr (3, [.ref q1, .ref q2, .null])), (q1, .inl (c1, 8, .inl (upd (upd (upd (upd (upd (upd (upd (upd (fun _ => 0) (Int32.toNatClampNeg 0) (-1)) (Int32.toNatClampNeg 1) (-1)) (Int32.toNatClampNeg 2) (-1)) (Int32.toNatClampNeg 3) (-1)) (Int32.toNatClampNeg 4) (-1)) (Int32.toNatClampNeg 5) (-1)) (Int32.toNatClampNeg 6) (-1)) (Int32.toNatClampNeg 7) (-1)))), (q2, .inl (c2, 8, .inl (fun _ => 0))), (q3, .inl (c3, 320, .inl (fun _ => 0)))] := hD
  have hK : va_K (dC, dI) clA [(c1, .int), (c2, .int), (c3, .int)] s := hK
  refine W.widen (k := 3) (n := 336) (Nat.le_of_ble_eq_true rfl) (Nat.le_of_ble_eq_true rfl) ?_
  refine va_putF (D := (dC, dI)) (ci := 3) (v := .ref q3) (ty := tyX3 2) (C := RX3) (T := TX3) (N := 3) hx hb hts cl_in3 tyX3 tyX3_ok nmX3 hown hK hP hD hS 0 rfl rfl 2 (by decide) (hts (.fieldLink "GearRoad$Rows" 16 "GearRoad$Rows" "items" "[I") (wq _ 89 (by decide +kernel) rfl)) (fun _ h9 => h9) rfl hin rfl (tyX3_ok 2 (by decide)) rfl rfl (Nat.le_of_ble_eq_true rfl) (show decode (mB 2) 60 = .ok (.putfield 16, 3) from by decide +kernel) (fun H locs hP hD hS => ?_)
  have hP : va_P (dC, dI) clA [(h0, .inr (3, [.ref q1, .ref q2, .ref q3])), (q1, .inl (c1, 8, .inl (upd (upd (upd (upd (upd (upd (upd (upd (fun _ => 0) (Int32.toNatClampNeg 0) (-1)) (Int32.toNatClampNeg 1) (-1)) (Int32.toNatClampNeg 2) (-1)) (Int32.toNatClampNeg 3) (-1)) (Int32.toNatClampNeg 4) (-1)) (Int32.toNatClampNeg 5) (-1)) (Int32.toNatClampNeg 6) (-1)) (Int32.toNatClampNeg 7) (-1)))), (q2, .inl (c2, 8, .inl (fun _ => 0))), (q3, .inl (c3, 320, .inl (fun _ => 0)))] H := hP
  have hD : va_D A [(h0, .inr (3, [.ref q1, .ref q2, .ref q3])), (q1, .inl (c1, 8, .inl (upd (upd (upd (upd (upd (upd (upd (upd (fun _ => 0) (Int32.toNatClampNeg 0) (-1)) (Int32.toNatClampNeg 1) (-1)) (Int32.toNatClampNeg 2) (-1)) (Int32.toNatClampNeg 3) (-1)) (Int32.toNatClampNeg 4) (-1)) (Int32.toNatClampNeg 5) (-1)) (Int32.toNatClampNeg 6) (-1)) (Int32.toNatClampNeg 7) (-1)))), (q2, .inl (c2, 8, .inl (fun _ => 0))), (q3, .inl (c3, 320, .inl (fun _ => 0)))] := hD
  exact W.vret hx hb hr (fun t ht hW => ⟨⟨(), rfl, trivial, q1, c1, q2, c2, q3, c3, by rw [ht]; exact hP, va_K.moved hW.alike hK, hD⟩, hS.F ht⟩) hS.2.2 (show decode (mB 2) 63 = .ok (.return_, 1) from by decide +kernel) hlocks
abbrev at_Bike (dC : Nat → ClassId) (dI : Nat → Nat → Nat) (A : Nat → Prop) (h0 : Nat) (_ : Unit) (t : State) : Prop := ∃ (q1 : Nat) (c1 : ClassId) (q2 : Nat) (c2 : ClassId) (q3 : Nat) (c3 : ClassId) (q4 : Nat) (c4 : ClassId) (q5 : Nat) (c5 : ClassId), va_P (dC, dI) clA [(h0, .inr (1, [.int 0, .int 0, .int 0, .int 0, .int 0, .int 0, .int 0, .int 0, .int 0, .ref q1, .ref q2, .ref q3, .ref q4, .ref q5])), (q1, .inl (c1, 3, .inl (fun _ => 0))), (q2, .inl (c2, 6, .inl (fun _ => 0))), (q3, .inl (c3, 6, .inl (fun _ => 0))), (q4, .inl (c4, 6, .inl (fun _ => 0))), (q5, .inl (c5, 6, .inl (fun _ => 0)))] t.heap ∧ va_K (dC, dI) clA [(c1, .int), (c2, .int), (c3, .int), (c4, .int), (c5, .int)] t ∧ va_D A [(h0, .inr (1, [.int 0, .int 0, .int 0, .int 0, .int 0, .int 0, .int 0, .int 0, .int 0, .ref q1, .ref q2, .ref q3, .ref q4, .ref q5])), (q1, .inl (c1, 3, .inl (fun _ => 0))), (q2, .inl (c2, 6, .inl (fun _ => 0))), (q3, .inl (c3, 6, .inl (fun _ => 0))), (q4, .inl (c4, 6, .inl (fun _ => 0))), (q5, .inl (c5, 6, .inl (fun _ => 0)))]
set_option maxHeartbeats 4000000 in
set_option maxRecDepth 100000 in
theorem c_Bike (l : Launch) (dC : Nat → ClassId) (dI : Nat → Nat → Nat) (h0 : Nat) (sz : Nat) : Met l (mY 4) (wsJ 4) ({ frames := 1, cells := 5, slots := 27, locals := 20 }) (va_Pc [.ref h0] (fun U => U.heap.size = sz ∧ va_P (dC, dI) clA [(h0, .inr (1, [.int 0, .int 0, .int 0, .int 0, .int 0, .int 0, .int 0, .int 0, .int 0, .null, .null, .null, .null, .null]))] U.heap ∧ va_K (dC, dI) clA [] U ∧ va_D (fun _ => True) [(h0, .inr (1, [.int 0, .int 0, .int 0, .int 0, .int 0, .int 0, .int 0, .int 0, .int 0, .null, .null, .null, .null, .null]))])) (va_Qv (fun _ : Unit => True) (at_Bike dC dI (va_A [(h0, .inr (1, [.int 0, .int 0, .int 0, .int 0, .int 0, .int 0, .int 0, .int 0, .int 0, .null, .null, .null, .null, .null]))] sz) h0) (va_A [(h0, .inr (1, [.int 0, .int 0, .int 0, .int 0, .int 0, .int 0, .int 0, .int 0, .int 0, .null, .null, .null, .null, .null]))] sz)) 5 27 (va_A [(h0, .inr (1, [.int 0, .int 0, .int 0, .int 0, .int 0, .int 0, .int 0, .int 0, .int 0, .null, .null, .null, .null, .null]))] sz) := by
  refine Met.ofW (cc := mB 4) (maxL := 1) (ret := none) (by decide +kernel) rfl ?_
  intro p e s m args below meth c s₁ B hml hv
  obtain ⟨rfl, hsz, hP, hK, hD0⟩ := hv
  have hx := B.exec
  have hb := B.bytes
  have hr := B.returns
  have hts0 := atoms_spec (ws := wsJ 4) B.pre
  have hts : ∀ w ∈ tbG, w.before ([.ref h0] : List Value).toArray s = true := fun w h => hts0 w (List.mem_cons_of_mem _ h)
  have hown : s.vm.findClass "GearRoad$Bike" = some m.cls := findClass_of_methodNamed B.named
  have hlocks := B.notSynchronized
  have hin : meth.name = "<init>" := (name_of_methodNamed B.named B.method).1
  subst hsz
  have hD := hD0.self (sz := s.heap.size)
  generalize hAe : va_A [(h0, .inr (1, [.int 0, .int 0, .int 0, .int 0, .int 0, .int 0, .int 0, .int 0, .int 0, .null, .null, .null, .null, .null]))] s.heap.size = A at hD ⊢
  have hA : ∀ q : Nat, s.heap.size ≤ q → A q := fun q h => by rw [← hAe]; exact Or.inr h
  have hS : va_S A s.heap s.heap [] := va_S.rf
  have hP : va_P (dC, dI) clA [(h0, .inr (1, [.int 0, .int 0, .int 0, .int 0, .int 0, .int 0, .int 0, .int 0, .int 0, .null, .null, .null, .null, .null]))] s.heap := hP
  have hl := lv_entry ([.ref h0]) (n := 1) (Nat.le_of_ble_eq_true rfl)
  rw [lg_entry_eq]
  generalize (lg_sl ([.ref h0]) ++ List.replicate (1 - (lg_sl ([.ref h0])).length) Slot.unset).toArray = ls at hl ⊢
  have hl : lv_has ls 1 [(0, .ref h0)] := hl
  refine lv_aload_n hx hb (show decode (mB 4) 0 = .ok (.aload_n 0, 1) from by decide +kernel) rfl (lv_at hl 0 rfl) ?_
  refine W.objInit hx hb hown (hts (.methodLink "GearRoad$Bike" 3 objectInit) (wq _ 129 (by decide +kernel) rfl)) (hts (.instanceMethod objectInit) (wq _ 78 (by decide +kernel) rfl)) (hts _ (wq (.code objectInit ⟨#[0xb1]⟩ 1 none) 79 (by decide +kernel) rfl)) rfl (by rw [hml]; exact hl.1) rfl (show decode (mB 4) 1 = .ok (.invokespecial 3, 3) from by decide +kernel) (Nat.le_of_ble_eq_true rfl) (Nat.le_of_ble_eq_true rfl) ?_
  refine W.eq (g2 := F0 m 4 ls []) rfl ?_
  refine lv_aload_n hx hb (show decode (mB 4) 4 = .ok (.aload_n 0, 1) from by decide +kernel) rfl (lv_at hl 0 rfl) ?_
  refine lv_iconst (v := 0) hx hb (show decode (mB 4) 5 = .ok (.iconst 0, 1) from by decide +kernel) (by decide) ?_
  refine va_put (D := (dC, dI)) (ci := 1) (v := .int 0) (ty := tyX1 0) (C := RX1) (T := TX1) (N := 14) hx hb hts cl_in1 tyX1 tyX1_ok nmX1 hown hK hP hD hS 0 rfl rfl 0 (by decide) (hts (.fieldLink "GearRoad$Bike" 9 "GearRoad$Bike" "there" "Z") (wq _ 130 (by decide +kernel) rfl)) (fun _ h9 => h9) rfl (tyX1_ok 0 (by decide)) rfl rfl (Nat.le_of_ble_eq_true rfl) (show decode (mB 4) 6 = .ok (.putfield 9, 3) from by decide +kernel) (fun H locs hP hD hS => ?_)
  have hP : va_P (dC, dI) clA [(h0, .inr (1, [.int 0, .int 0, .int 0, .int 0, .int 0, .int 0, .int 0, .int 0, .int 0, .null, .null, .null, .null, .null]))] H := hP
  have hD : va_D A [(h0, .inr (1, [.int 0, .int 0, .int 0, .int 0, .int 0, .int 0, .int 0, .int 0, .int 0, .null, .null, .null, .null, .null]))] := hD
  refine lv_aload_n hx hb (show decode (mB 4) 9 = .ok (.aload_n 0, 1) from by decide +kernel) rfl (lv_at hl 0 rfl) ?_
  refine lv_iconst (v := 0) hx hb (show decode (mB 4) 10 = .ok (.iconst 0, 1) from by decide +kernel) (by decide) ?_
  refine va_put (D := (dC, dI)) (ci := 1) (v := .int 0) (ty := tyX1 1) (C := RX1) (T := TX1) (N := 14) hx hb hts cl_in1 tyX1 tyX1_ok nmX1 hown hK hP hD hS 0 rfl rfl 1 (by decide) (hts (.fieldLink "GearRoad$Bike" 15 "GearRoad$Bike" "ringCount" "I") (wq _ 133 (by decide +kernel) rfl)) (fun _ h9 => h9) rfl (tyX1_ok 1 (by decide)) rfl rfl (Nat.le_of_ble_eq_true rfl) (show decode (mB 4) 11 = .ok (.putfield 15, 3) from by decide +kernel) (fun H locs hP hD hS => ?_)
  have hP : va_P (dC, dI) clA [(h0, .inr (1, [.int 0, .int 0, .int 0, .int 0, .int 0, .int 0, .int 0, .int 0, .int 0, .null, .null, .null, .null, .null]))] H := hP
  have hD : va_D A [(h0, .inr (1, [.int 0, .int 0, .int 0, .int 0, .int 0, .int 0, .int 0, .int 0, .int 0, .null, .null, .null, .null, .null]))] := hD
  refine lv_aload_n hx hb (show decode (mB 4) 14 = .ok (.aload_n 0, 1) from by decide +kernel) rfl (lv_at hl 0 rfl) ?_
  refine lv_iconst (v := 0) hx hb (show decode (mB 4) 15 = .ok (.iconst 0, 1) from by decide +kernel) (by decide) ?_
  refine va_put (D := (dC, dI)) (ci := 1) (v := .int 0) (ty := tyX1 2) (C := RX1) (T := TX1) (N := 14) hx hb hts cl_in1 tyX1 tyX1_ok nmX1 hown hK hP hD hS 0 rfl rfl 2 (by decide) (hts (.fieldLink "GearRoad$Bike" 19 "GearRoad$Bike" "cogCount" "I") (wq _ 136 (by decide +kernel) rfl)) (fun _ h9 => h9) rfl (tyX1_ok 2 (by decide)) rfl rfl (Nat.le_of_ble_eq_true rfl) (show decode (mB 4) 16 = .ok (.putfield 19, 3) from by decide +kernel) (fun H locs hP hD hS => ?_)
  have hP : va_P (dC, dI) clA [(h0, .inr (1, [.int 0, .int 0, .int 0, .int 0, .int 0, .int 0, .int 0, .int 0, .int 0, .null, .null, .null, .null, .null]))] H := hP
  have hD : va_D A [(h0, .inr (1, [.int 0, .int 0, .int 0, .int 0, .int 0, .int 0, .int 0, .int 0, .int 0, .null, .null, .null, .null, .null]))] := hD
  refine lv_aload_n hx hb (show decode (mB 4) 19 = .ok (.aload_n 0, 1) from by decide +kernel) rfl (lv_at hl 0 rfl) ?_
  refine lv_iconst (v := 0) hx hb (show decode (mB 4) 20 = .ok (.iconst 0, 1) from by decide +kernel) (by decide) ?_
  refine va_put (D := (dC, dI)) (ci := 1) (v := .int 0) (ty := tyX1 3) (C := RX1) (T := TX1) (N := 14) hx hb hts cl_in1 tyX1 tyX1_ok nmX1 hown hK hP hD hS 0 rfl rfl 3 (by decide) (hts (.fieldLink "GearRoad$Bike" 22 "GearRoad$Bike" "pieceCount" "I") (wq _ 140 (by decide +kernel) rfl)) (fun _ h9 => h9) rfl (tyX1_ok 3 (by decide)) rfl rfl (Nat.le_of_ble_eq_true rfl) (show decode (mB 4) 21 = .ok (.putfield 22, 3) from by decide +kernel) (fun H locs hP hD hS => ?_)
  have hP : va_P (dC, dI) clA [(h0, .inr (1, [.int 0, .int 0, .int 0, .int 0, .int 0, .int 0, .int 0, .int 0, .int 0, .null, .null, .null, .null, .null]))] H := hP
  have hD : va_D A [(h0, .inr (1, [.int 0, .int 0, .int 0, .int 0, .int 0, .int 0, .int 0, .int 0, .int 0, .null, .null, .null, .null, .null]))] := hD
  refine lv_aload_n hx hb (show decode (mB 4) 24 = .ok (.aload_n 0, 1) from by decide +kernel) rfl (lv_at hl 0 rfl) ?_
  refine lv_iconst (v := 0) hx hb (show decode (mB 4) 25 = .ok (.iconst 0, 1) from by decide +kernel) (by decide) ?_
  refine va_put (D := (dC, dI)) (ci := 1) (v := .int 0) (ty := tyX1 4) (C := RX1) (T := TX1) (N := 14) hx hb hts cl_in1 tyX1 tyX1_ok nmX1 hown hK hP hD hS 0 rfl rfl 4 (by decide) (hts (.fieldLink "GearRoad$Bike" 25 "GearRoad$Bike" "strength" "I") (wq _ 144 (by decide +kernel) rfl)) (fun _ h9 => h9) rfl (tyX1_ok 4 (by decide)) rfl rfl (Nat.le_of_ble_eq_true rfl) (show decode (mB 4) 26 = .ok (.putfield 25, 3) from by decide +kernel) (fun H locs hP hD hS => ?_)
  have hP : va_P (dC, dI) clA [(h0, .inr (1, [.int 0, .int 0, .int 0, .int 0, .int 0, .int 0, .int 0, .int 0, .int 0, .null, .null, .null, .null, .null]))] H := hP
  have hD : va_D A [(h0, .inr (1, [.int 0, .int 0, .int 0, .int 0, .int 0, .int 0, .int 0, .int 0, .int 0, .null, .null, .null, .null, .null]))] := hD
  refine lv_aload_n hx hb (show decode (mB 4) 29 = .ok (.aload_n 0, 1) from by decide +kernel) rfl (lv_at hl 0 rfl) ?_
  refine lv_iconst (v := 0) hx hb (show decode (mB 4) 30 = .ok (.iconst 0, 1) from by decide +kernel) (by decide) ?_
  refine va_put (D := (dC, dI)) (ci := 1) (v := .int 0) (ty := tyX1 5) (C := RX1) (T := TX1) (N := 14) hx hb hts cl_in1 tyX1 tyX1_ok nmX1 hown hK hP hD hS 0 rfl rfl 5 (by decide) (hts (.fieldLink "GearRoad$Bike" 28 "GearRoad$Bike" "ring" "I") (wq _ 148 (by decide +kernel) rfl)) (fun _ h9 => h9) rfl (tyX1_ok 5 (by decide)) rfl rfl (Nat.le_of_ble_eq_true rfl) (show decode (mB 4) 31 = .ok (.putfield 28, 3) from by decide +kernel) (fun H locs hP hD hS => ?_)
  have hP : va_P (dC, dI) clA [(h0, .inr (1, [.int 0, .int 0, .int 0, .int 0, .int 0, .int 0, .int 0, .int 0, .int 0, .null, .null, .null, .null, .null]))] H := hP
  have hD : va_D A [(h0, .inr (1, [.int 0, .int 0, .int 0, .int 0, .int 0, .int 0, .int 0, .int 0, .int 0, .null, .null, .null, .null, .null]))] := hD
  refine lv_aload_n hx hb (show decode (mB 4) 34 = .ok (.aload_n 0, 1) from by decide +kernel) rfl (lv_at hl 0 rfl) ?_
  refine lv_iconst (v := 0) hx hb (show decode (mB 4) 35 = .ok (.iconst 0, 1) from by decide +kernel) (by decide) ?_
  refine va_put (D := (dC, dI)) (ci := 1) (v := .int 0) (ty := tyX1 6) (C := RX1) (T := TX1) (N := 14) hx hb hts cl_in1 tyX1 tyX1_ok nmX1 hown hK hP hD hS 0 rfl rfl 6 (by decide) (hts (.fieldLink "GearRoad$Bike" 31 "GearRoad$Bike" "cog" "I") (wq _ 151 (by decide +kernel) rfl)) (fun _ h9 => h9) rfl (tyX1_ok 6 (by decide)) rfl rfl (Nat.le_of_ble_eq_true rfl) (show decode (mB 4) 36 = .ok (.putfield 31, 3) from by decide +kernel) (fun H locs hP hD hS => ?_)
  have hP : va_P (dC, dI) clA [(h0, .inr (1, [.int 0, .int 0, .int 0, .int 0, .int 0, .int 0, .int 0, .int 0, .int 0, .null, .null, .null, .null, .null]))] H := hP
  have hD : va_D A [(h0, .inr (1, [.int 0, .int 0, .int 0, .int 0, .int 0, .int 0, .int 0, .int 0, .int 0, .null, .null, .null, .null, .null]))] := hD
  refine lv_aload_n hx hb (show decode (mB 4) 39 = .ok (.aload_n 0, 1) from by decide +kernel) rfl (lv_at hl 0 rfl) ?_
  refine lv_iconst (v := 0) hx hb (show decode (mB 4) 40 = .ok (.iconst 0, 1) from by decide +kernel) (by decide) ?_
  refine va_put (D := (dC, dI)) (ci := 1) (v := .int 0) (ty := tyX1 7) (C := RX1) (T := TX1) (N := 14) hx hb hts cl_in1 tyX1 tyX1_ok nmX1 hown hK hP hD hS 0 rfl rfl 7 (by decide) (hts (.fieldLink "GearRoad$Bike" 34 "GearRoad$Bike" "piece" "I") (wq _ 154 (by decide +kernel) rfl)) (fun _ h9 => h9) rfl (tyX1_ok 7 (by decide)) rfl rfl (Nat.le_of_ble_eq_true rfl) (show decode (mB 4) 41 = .ok (.putfield 34, 3) from by decide +kernel) (fun H locs hP hD hS => ?_)
  have hP : va_P (dC, dI) clA [(h0, .inr (1, [.int 0, .int 0, .int 0, .int 0, .int 0, .int 0, .int 0, .int 0, .int 0, .null, .null, .null, .null, .null]))] H := hP
  have hD : va_D A [(h0, .inr (1, [.int 0, .int 0, .int 0, .int 0, .int 0, .int 0, .int 0, .int 0, .int 0, .null, .null, .null, .null, .null]))] := hD
  refine lv_aload_n hx hb (show decode (mB 4) 44 = .ok (.aload_n 0, 1) from by decide +kernel) rfl (lv_at hl 0 rfl) ?_
  refine lv_iconst (v := 0) hx hb (show decode (mB 4) 45 = .ok (.iconst 0, 1) from by decide +kernel) (by decide) ?_
  refine va_put (D := (dC, dI)) (ci := 1) (v := .int 0) (ty := tyX1 8) (C := RX1) (T := TX1) (N := 14) hx hb hts cl_in1 tyX1 tyX1_ok nmX1 hown hK hP hD hS 0 rfl rfl 8 (by decide) (hts (.fieldLink "GearRoad$Bike" 37 "GearRoad$Bike" "turned" "I") (wq _ 158 (by decide +kernel) rfl)) (fun _ h9 => h9) rfl (tyX1_ok 8 (by decide)) rfl rfl (Nat.le_of_ble_eq_true rfl) (show decode (mB 4) 46 = .ok (.putfield 37, 3) from by decide +kernel) (fun H locs hP hD hS => ?_)
  have hP : va_P (dC, dI) clA [(h0, .inr (1, [.int 0, .int 0, .int 0, .int 0, .int 0, .int 0, .int 0, .int 0, .int 0, .null, .null, .null, .null, .null]))] H := hP
  have hD : va_D A [(h0, .inr (1, [.int 0, .int 0, .int 0, .int 0, .int 0, .int 0, .int 0, .int 0, .int 0, .null, .null, .null, .null, .null]))] := hD
  refine lv_aload_n hx hb (show decode (mB 4) 49 = .ok (.aload_n 0, 1) from by decide +kernel) rfl (lv_at hl 0 rfl) ?_
  refine lv_iconst (v := 3) hx hb (show decode (mB 4) 50 = .ok (.iconst 3, 1) from by decide +kernel) (by decide) ?_
  refine va_newa (atype := .int) (ty := .int) (a0 := (3, .inl (fun _ => 0))) (N' := 3) hx hb (hts (.arrayClass .int) (wq _ 98 (by decide +kernel) rfl)) rfl hK hP hD hS hA (fun _ => rfl) (by decide) (by decide) (Nat.le_of_ble_eq_true rfl) (Nat.le_of_ble_eq_true rfl) (Nat.le_of_ble_eq_true rfl) (show decode (mB 4) 51 = .ok (.newarray .int, 2) from by decide +kernel) (fun q1 c1 H hK hP hD hS => ?_)
  have hP : va_P (dC, dI) clA [(h0, .inr (1, [.int 0, .int 0, .int 0, .int 0, .int 0, .int 0, .int 0, .int 0, .int 0, .null, .null, .null, .null, .null])), (q1, .inl (c1, 3, .inl (fun _ => 0)))] H := hP
  have hD : va_D A [(h0, .inr (1, [.int 0, .int 0, .int 0, .int 0, .int 0, .int 0, .int 0, .int 0, .int 0, .null, .null, .null, .null, .null])), (q1, .inl (c1, 3, .inl (fun _ => 0)))] := hD
  have hK : va_K (dC, dI) clA [(c1, .int)] s := hK
  refine W.widen (k := 1) (n := 3) (Nat.le_of_ble_eq_true rfl) (Nat.le_of_ble_eq_true rfl) ?_
  refine va_putF (D := (dC, dI)) (ci := 1) (v := .ref q1) (ty := tyX1 9) (C := RX1) (T := TX1) (N := 14) hx hb hts cl_in1 tyX1 tyX1_ok nmX1 hown hK hP hD hS 0 rfl rfl 9 (by decide) (hts (.fieldLink "GearRoad$Bike" 40 "GearRoad$Bike" "rings" "[I") (wq _ 161 (by decide +kernel) rfl)) (fun _ h9 => h9) rfl hin rfl (tyX1_ok 9 (by decide)) rfl rfl (Nat.le_of_ble_eq_true rfl) (show decode (mB 4) 53 = .ok (.putfield 40, 3) from by decide +kernel) (fun H locs hP hD hS => ?_)
  have hP : va_P (dC, dI) clA [(h0, .inr (1, [.int 0, .int 0, .int 0, .int 0, .int 0, .int 0, .int 0, .int 0, .int 0, .ref q1, .null, .null, .null, .null])), (q1, .inl (c1, 3, .inl (fun _ => 0)))] H := hP
  have hD : va_D A [(h0, .inr (1, [.int 0, .int 0, .int 0, .int 0, .int 0, .int 0, .int 0, .int 0, .int 0, .ref q1, .null, .null, .null, .null])), (q1, .inl (c1, 3, .inl (fun _ => 0)))] := hD
  refine lv_aload_n hx hb (show decode (mB 4) 56 = .ok (.aload_n 0, 1) from by decide +kernel) rfl (lv_at hl 0 rfl) ?_
  refine lv_bipush (v := 6) hx hb (show decode (mB 4) 57 = .ok (.bipush 6, 2) from by decide +kernel) (by decide) ?_
  refine va_newa (atype := .int) (ty := .int) (a0 := (6, .inl (fun _ => 0))) (N' := 6) hx hb (hts (.arrayClass .int) (wq _ 98 (by decide +kernel) rfl)) rfl hK hP hD hS hA (fun _ => rfl) (by decide) (by decide) (Nat.le_of_ble_eq_true rfl) (Nat.le_of_ble_eq_true rfl) (Nat.le_of_ble_eq_true rfl) (show decode (mB 4) 59 = .ok (.newarray .int, 2) from by decide +kernel) (fun q2 c2 H hK hP hD hS => ?_)
  have hP : va_P (dC, dI) clA [(h0, .inr (1, [.int 0, .int 0, .int 0, .int 0, .int 0, .int 0, .int 0, .int 0, .int 0, .ref q1, .null, .null, .null, .null])), (q1, .inl (c1, 3, .inl (fun _ => 0))), (q2, .inl (c2, 6, .inl (fun _ => 0)))] H := hP
  have hD : va_D A [(h0, .inr (1, [.int 0, .int 0, .int 0, .int 0, .int 0, .int 0, .int 0, .int 0, .int 0, .ref q1, .null, .null, .null, .null])), (q1, .inl (c1, 3, .inl (fun _ => 0))), (q2, .inl (c2, 6, .inl (fun _ => 0)))] := hD
  have hK : va_K (dC, dI) clA [(c1, .int), (c2, .int)] s := hK
  refine W.widen (k := 2) (n := 9) (Nat.le_of_ble_eq_true rfl) (Nat.le_of_ble_eq_true rfl) ?_
  refine va_putF (D := (dC, dI)) (ci := 1) (v := .ref q2) (ty := tyX1 10) (C := RX1) (T := TX1) (N := 14) hx hb hts cl_in1 tyX1 tyX1_ok nmX1 hown hK hP hD hS 0 rfl rfl 10 (by decide) (hts (.fieldLink "GearRoad$Bike" 44 "GearRoad$Bike" "kinds" "[I") (wq _ 164 (by decide +kernel) rfl)) (fun _ h9 => h9) rfl hin rfl (tyX1_ok 10 (by decide)) rfl rfl (Nat.le_of_ble_eq_true rfl) (show decode (mB 4) 61 = .ok (.putfield 44, 3) from by decide +kernel) (fun H locs hP hD hS => ?_)
  have hP : va_P (dC, dI) clA [(h0, .inr (1, [.int 0, .int 0, .int 0, .int 0, .int 0, .int 0, .int 0, .int 0, .int 0, .ref q1, .ref q2, .null, .null, .null])), (q1, .inl (c1, 3, .inl (fun _ => 0))), (q2, .inl (c2, 6, .inl (fun _ => 0)))] H := hP
  have hD : va_D A [(h0, .inr (1, [.int 0, .int 0, .int 0, .int 0, .int 0, .int 0, .int 0, .int 0, .int 0, .ref q1, .ref q2, .null, .null, .null])), (q1, .inl (c1, 3, .inl (fun _ => 0))), (q2, .inl (c2, 6, .inl (fun _ => 0)))] := hD
  refine lv_aload_n hx hb (show decode (mB 4) 64 = .ok (.aload_n 0, 1) from by decide +kernel) rfl (lv_at hl 0 rfl) ?_
  refine lv_bipush (v := 6) hx hb (show decode (mB 4) 65 = .ok (.bipush 6, 2) from by decide +kernel) (by decide) ?_
  refine va_newa (atype := .int) (ty := .int) (a0 := (6, .inl (fun _ => 0))) (N' := 6) hx hb (hts (.arrayClass .int) (wq _ 98 (by decide +kernel) rfl)) rfl hK hP hD hS hA (fun _ => rfl) (by decide) (by decide) (Nat.le_of_ble_eq_true rfl) (Nat.le_of_ble_eq_true rfl) (Nat.le_of_ble_eq_true rfl) (show decode (mB 4) 67 = .ok (.newarray .int, 2) from by decide +kernel) (fun q3 c3 H hK hP hD hS => ?_)
  have hP : va_P (dC, dI) clA [(h0, .inr (1, [.int 0, .int 0, .int 0, .int 0, .int 0, .int 0, .int 0, .int 0, .int 0, .ref q1, .ref q2, .null, .null, .null])), (q1, .inl (c1, 3, .inl (fun _ => 0))), (q2, .inl (c2, 6, .inl (fun _ => 0))), (q3, .inl (c3, 6, .inl (fun _ => 0)))] H := hP
  have hD : va_D A [(h0, .inr (1, [.int 0, .int 0, .int 0, .int 0, .int 0, .int 0, .int 0, .int 0, .int 0, .ref q1, .ref q2, .null, .null, .null])), (q1, .inl (c1, 3, .inl (fun _ => 0))), (q2, .inl (c2, 6, .inl (fun _ => 0))), (q3, .inl (c3, 6, .inl (fun _ => 0)))] := hD
  have hK : va_K (dC, dI) clA [(c1, .int), (c2, .int), (c3, .int)] s := hK
  refine W.widen (k := 3) (n := 15) (Nat.le_of_ble_eq_true rfl) (Nat.le_of_ble_eq_true rfl) ?_
  refine va_putF (D := (dC, dI)) (ci := 1) (v := .ref q3) (ty := tyX1 11) (C := RX1) (T := TX1) (N := 14) hx hb hts cl_in1 tyX1 tyX1_ok nmX1 hown hK hP hD hS 0 rfl rfl 11 (by decide) (hts (.fieldLink "GearRoad$Bike" 47 "GearRoad$Bike" "teeth" "[I") (wq _ 167 (by decide +kernel) rfl)) (fun _ h9 => h9) rfl hin rfl (tyX1_ok 11 (by decide)) rfl rfl (Nat.le_of_ble_eq_true rfl) (show decode (mB 4) 69 = .ok (.putfield 47, 3) from by decide +kernel) (fun H locs hP hD hS => ?_)
  have hP : va_P (dC, dI) clA [(h0, .inr (1, [.int 0, .int 0, .int 0, .int 0, .int 0, .int 0, .int 0, .int 0, .int 0, .ref q1, .ref q2, .ref q3, .null, .null])), (q1, .inl (c1, 3, .inl (fun _ => 0))), (q2, .inl (c2, 6, .inl (fun _ => 0))), (q3, .inl (c3, 6, .inl (fun _ => 0)))] H := hP
  have hD : va_D A [(h0, .inr (1, [.int 0, .int 0, .int 0, .int 0, .int 0, .int 0, .int 0, .int 0, .int 0, .ref q1, .ref q2, .ref q3, .null, .null])), (q1, .inl (c1, 3, .inl (fun _ => 0))), (q2, .inl (c2, 6, .inl (fun _ => 0))), (q3, .inl (c3, 6, .inl (fun _ => 0)))] := hD
  refine lv_aload_n hx hb (show decode (mB 4) 72 = .ok (.aload_n 0, 1) from by decide +kernel) rfl (lv_at hl 0 rfl) ?_
  refine lv_bipush (v := 6) hx hb (show decode (mB 4) 73 = .ok (.bipush 6, 2) from by decide +kernel) (by decide) ?_
  refine va_newa (atype := .int) (ty := .int) (a0 := (6, .inl (fun _ => 0))) (N' := 6) hx hb (hts (.arrayClass .int) (wq _ 98 (by decide +kernel) rfl)) rfl hK hP hD hS hA (fun _ => rfl) (by decide) (by decide) (Nat.le_of_ble_eq_true rfl) (Nat.le_of_ble_eq_true rfl) (Nat.le_of_ble_eq_true rfl) (show decode (mB 4) 75 = .ok (.newarray .int, 2) from by decide +kernel) (fun q4 c4 H hK hP hD hS => ?_)
  have hP : va_P (dC, dI) clA [(h0, .inr (1, [.int 0, .int 0, .int 0, .int 0, .int 0, .int 0, .int 0, .int 0, .int 0, .ref q1, .ref q2, .ref q3, .null, .null])), (q1, .inl (c1, 3, .inl (fun _ => 0))), (q2, .inl (c2, 6, .inl (fun _ => 0))), (q3, .inl (c3, 6, .inl (fun _ => 0))), (q4, .inl (c4, 6, .inl (fun _ => 0)))] H := hP
  have hD : va_D A [(h0, .inr (1, [.int 0, .int 0, .int 0, .int 0, .int 0, .int 0, .int 0, .int 0, .int 0, .ref q1, .ref q2, .ref q3, .null, .null])), (q1, .inl (c1, 3, .inl (fun _ => 0))), (q2, .inl (c2, 6, .inl (fun _ => 0))), (q3, .inl (c3, 6, .inl (fun _ => 0))), (q4, .inl (c4, 6, .inl (fun _ => 0)))] := hD
  have hK : va_K (dC, dI) clA [(c1, .int), (c2, .int), (c3, .int), (c4, .int)] s := hK
  refine W.widen (k := 4) (n := 21) (Nat.le_of_ble_eq_true rfl) (Nat.le_of_ble_eq_true rfl) ?_
  refine va_putF (D := (dC, dI)) (ci := 1) (v := .ref q4) (ty := tyX1 12) (C := RX1) (T := TX1) (N := 14) hx hb hts cl_in1 tyX1 tyX1_ok nmX1 hown hK hP hD hS 0 rfl rfl 12 (by decide) (hts (.fieldLink "GearRoad$Bike" 50 "GearRoad$Bike" "turnedOn" "[I") (wq _ 170 (by decide +kernel) rfl)) (fun _ h9 => h9) rfl hin rfl (tyX1_ok 12 (by decide)) rfl rfl (Nat.le_of_ble_eq_true rfl) (show decode (mB 4) 77 = .ok (.putfield 50, 3) from by decide +kernel) (fun H locs hP hD hS => ?_)
  have hP : va_P (dC, dI) clA [(h0, .inr (1, [.int 0, .int 0, .int 0, .int 0, .int 0, .int 0, .int 0, .int 0, .int 0, .ref q1, .ref q2, .ref q3, .ref q4, .null])), (q1, .inl (c1, 3, .inl (fun _ => 0))), (q2, .inl (c2, 6, .inl (fun _ => 0))), (q3, .inl (c3, 6, .inl (fun _ => 0))), (q4, .inl (c4, 6, .inl (fun _ => 0)))] H := hP
  have hD : va_D A [(h0, .inr (1, [.int 0, .int 0, .int 0, .int 0, .int 0, .int 0, .int 0, .int 0, .int 0, .ref q1, .ref q2, .ref q3, .ref q4, .null])), (q1, .inl (c1, 3, .inl (fun _ => 0))), (q2, .inl (c2, 6, .inl (fun _ => 0))), (q3, .inl (c3, 6, .inl (fun _ => 0))), (q4, .inl (c4, 6, .inl (fun _ => 0)))] := hD
  refine lv_aload_n hx hb (show decode (mB 4) 80 = .ok (.aload_n 0, 1) from by decide +kernel) rfl (lv_at hl 0 rfl) ?_
  refine lv_bipush (v := 6) hx hb (show decode (mB 4) 81 = .ok (.bipush 6, 2) from by decide +kernel) (by decide) ?_
  refine va_newa (atype := .int) (ty := .int) (a0 := (6, .inl (fun _ => 0))) (N' := 6) hx hb (hts (.arrayClass .int) (wq _ 98 (by decide +kernel) rfl)) rfl hK hP hD hS hA (fun _ => rfl) (by decide) (by decide) (Nat.le_of_ble_eq_true rfl) (Nat.le_of_ble_eq_true rfl) (Nat.le_of_ble_eq_true rfl) (show decode (mB 4) 83 = .ok (.newarray .int, 2) from by decide +kernel) (fun q5 c5 H hK hP hD hS => ?_)
  have hP : va_P (dC, dI) clA [(h0, .inr (1, [.int 0, .int 0, .int 0, .int 0, .int 0, .int 0, .int 0, .int 0, .int 0, .ref q1, .ref q2, .ref q3, .ref q4, .null])), (q1, .inl (c1, 3, .inl (fun _ => 0))), (q2, .inl (c2, 6, .inl (fun _ => 0))), (q3, .inl (c3, 6, .inl (fun _ => 0))), (q4, .inl (c4, 6, .inl (fun _ => 0))), (q5, .inl (c5, 6, .inl (fun _ => 0)))] H := hP
  have hD : va_D A [(h0, .inr (1, [.int 0, .int 0, .int 0, .int 0, .int 0, .int 0, .int 0, .int 0, .int 0, .ref q1, .ref q2, .ref q3, .ref q4, .null])), (q1, .inl (c1, 3, .inl (fun _ => 0))), (q2, .inl (c2, 6, .inl (fun _ => 0))), (q3, .inl (c3, 6, .inl (fun _ => 0))), (q4, .inl (c4, 6, .inl (fun _ => 0))), (q5, .inl (c5, 6, .inl (fun _ => 0)))] := hD
  have hK : va_K (dC, dI) clA [(c1, .int), (c2, .int), (c3, .int), (c4, .int), (c5, .int)] s := hK
  refine W.widen (k := 5) (n := 27) (Nat.le_of_ble_eq_true rfl) (Nat.le_of_ble_eq_true rfl) ?_
  refine va_putF (D := (dC, dI)) (ci := 1) (v := .ref q5) (ty := tyX1 13) (C := RX1) (T := TX1) (N := 14) hx hb hts cl_in1 tyX1 tyX1_ok nmX1 hown hK hP hD hS 0 rfl rfl 13 (by decide) (hts (.fieldLink "GearRoad$Bike" 53 "GearRoad$Bike" "slopes" "[I") (wq _ 173 (by decide +kernel) rfl)) (fun _ h9 => h9) rfl hin rfl (tyX1_ok 13 (by decide)) rfl rfl (Nat.le_of_ble_eq_true rfl) (show decode (mB 4) 85 = .ok (.putfield 53, 3) from by decide +kernel) (fun H locs hP hD hS => ?_)
  have hP : va_P (dC, dI) clA [(h0, .inr (1, [.int 0, .int 0, .int 0, .int 0, .int 0, .int 0, .int 0, .int 0, .int 0, .ref q1, .ref q2, .ref q3, .ref q4, .ref q5])), (q1, .inl (c1, 3, .inl (fun _ => 0))), (q2, .inl (c2, 6, .inl (fun _ => 0))), (q3, .inl (c3, 6, .inl (fun _ => 0))), (q4, .inl (c4, 6, .inl (fun _ => 0))), (q5, .inl (c5, 6, .inl (fun _ => 0)))] H := hP
  have hD : va_D A [(h0, .inr (1, [.int 0, .int 0, .int 0, .int 0, .int 0, .int 0, .int 0, .int 0, .int 0, .ref q1, .ref q2, .ref q3, .ref q4, .ref q5])), (q1, .inl (c1, 3, .inl (fun _ => 0))), (q2, .inl (c2, 6, .inl (fun _ => 0))), (q3, .inl (c3, 6, .inl (fun _ => 0))), (q4, .inl (c4, 6, .inl (fun _ => 0))), (q5, .inl (c5, 6, .inl (fun _ => 0)))] := hD
  exact W.vret hx hb hr (fun t ht hW => ⟨⟨(), rfl, trivial, q1, c1, q2, c2, q3, c3, q4, c4, q5, c5, by rw [ht]; exact hP, va_K.moved hW.alike hK, hD⟩, hS.F ht⟩) hS.2.2 (show decode (mB 4) 88 = .ok (.return_, 1) from by decide +kernel) hlocks
