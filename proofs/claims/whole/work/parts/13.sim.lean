/-! branches, switches, calls, returns; a method's contract out of the small machine's -/
theorem virt_ne1 : ∀ e ∈ q_virt, ¬ e.2.1 = 1 := by decide +kernel
theorem st1_ne1 : ∀ e ∈ q_st1, ¬ e.2.1 = 1 := by decide +kernel
theorem st2_ne1 : ∀ e ∈ q_st2, ¬ e.2.1 = 1 := by decide +kernel
section Sim
variable {p : Program} {l : Launch} {e : Env} {R : Room} {s : State} {m : MethodId} {args : Array Value} {below : List Frame} {meth : Method} {co : Code} {cells slots : Nat} {Q : State → Prop} {D : va_G} {ad : Nat → Nat} {cA : Nat → ClassId} {A : Nat → Prop} {mi : Nat} {M0 : Mm}
set_option maxHeartbeats 4000000 in
theorem step2 (F : Fx p s m args co D ad cA A mi M0) {i : AI} {c c1 c2 : Cf} {P : Prop} (hok : okI mi c.1 i = true) (he : brc i c = some (P, c1, c2)) (k1 : P → XX p l e R s m args below meth co cells slots Q D ad cA A mi M0 c1) (k2 : ¬ P → XX p l e R s m args below meth co cells slots Q D ad cA A mi M0 c2) : XX p l e R s m args below meth co cells slots Q D ad cA A mi M0 c := by
  obtain ⟨ins, len, ⟨a, b⟩, v⟩ := i
  obtain ⟨pc, L, st, M⟩ := c
  obtain ⟨hx, hb, hml, hown, hts, hK, hSt, hAA, hN, hI⟩ := F
  intro H locs ls hO hl
  have hd := okI_dec hok
  cases ins with
  | if_icmp q o =>
    simp only [brc] at he
    split at he
    · rename_i y x r
      cases he
      simp only [okI, Bool.and_eq_true, decide_eq_true_eq, Nat.beq_eq] at hok
      obtain ⟨⟨-, ht⟩, rfl⟩ := hok
      cases q with
      | eq => exact lv_icmp_eq hx hb hd ht (fun h => k1 h H locs ls hO hl) (fun h => k2 h H locs ls hO hl)
      | ne => exact lv_icmp_ne hx hb hd ht (fun h => k1 h H locs ls hO hl) (fun h => k2 (fun n => n h) H locs ls hO hl)
      | lt => exact lv_icmp_lt hx hb hd ht (fun h => k1 h H locs ls hO hl) (fun h => k2 h H locs ls hO hl)
      | ge => exact lv_icmp_ge hx hb hd ht (fun h => k1 h H locs ls hO hl) (fun h => k2 h H locs ls hO hl)
      | gt => exact lv_icmp_gt hx hb hd ht (fun h => k1 h H locs ls hO hl) (fun h => k2 h H locs ls hO hl)
      | le => exact lv_icmp_le hx hb hd ht (fun h => k1 h H locs ls hO hl) (fun h => k2 h H locs ls hO hl)
    · cases he
  | ifCond q o =>
    simp only [brc] at he
    split at he
    · rename_i x r
      cases he
      simp only [okI, Bool.and_eq_true, decide_eq_true_eq, Nat.beq_eq] at hok
      obtain ⟨⟨-, ht⟩, rfl⟩ := hok
      cases q with
      | eq => exact lv_if_eq hx hb hd ht (fun h => k1 h H locs ls hO hl) (fun h => k2 h H locs ls hO hl)
      | ne => exact lv_if_ne hx hb hd ht (fun h => k1 h H locs ls hO hl) (fun h => k2 (fun n => n h) H locs ls hO hl)
      | lt => exact lv_if_lt hx hb hd ht (fun h => k1 h H locs ls hO hl) (fun h => k2 h H locs ls hO hl)
      | ge => exact lv_if_ge hx hb hd ht (fun h => k1 h H locs ls hO hl) (fun h => k2 h H locs ls hO hl)
      | gt => exact lv_if_gt hx hb hd ht (fun h => k1 h H locs ls hO hl) (fun h => k2 h H locs ls hO hl)
      | le => exact lv_if_le hx hb hd ht (fun h => k1 h H locs ls hO hl) (fun h => k2 h H locs ls hO hl)
    · cases he
  | _ => simp [brc] at he
theorem step3 (F : Fx p s m args co D ad cA A mi M0) {i : AI} {pc t : Nat} {x : Int32} {L : List (Option Value)} {st : List Value} {M : Mm} (hok : okI mi pc i = true) (hi : (∃ d lo hi o, i.1 = .tableswitch d lo hi o) ∨ (∃ d ps, i.1 = .lookupswitch d ps)) (ht : (pc : Int) + swOff i.1 x = (t : Int)) (k : XX p l e R s m args below meth co cells slots Q D ad cA A mi M0 (t, L, st, M)) : XX p l e R s m args below meth co cells slots Q D ad cA A mi M0 (pc, L, .int x :: st, M) := by
  obtain ⟨ins, len, ⟨a, b⟩, v⟩ := i
  obtain ⟨hx, hb, hml, hown, hts, hK, hSt, hAA, hN, hI⟩ := F
  intro H locs ls hO hl
  have hd := okI_dec hok
  rcases hi with ⟨d, lo, hi, o, rfl⟩ | ⟨d, ps, rfl⟩
  · simp only [swOff] at ht
    by_cases hr : x.toInt < lo ∨ hi < x.toInt
    · rw [if_pos hr] at ht
      exact lv_tableOut hx hb hd hr ht (k H locs ls hO hl)
    · rw [if_neg hr] at ht
      simp only [okI, Bool.and_eq_true, decide_eq_true_eq] at hok
      obtain ⟨⟨-, hlo, hsz⟩, -⟩ := hok
      have hlt : (x.toInt - lo).toNat < o.size := by omega
      have e1 : o[(x.toInt - lo).toNat]? = some (o.toList.getD (x.toInt - lo).toNat d) := by
        rw [List.getD_eq_getElem?_getD, Array.getElem?_toList, Array.getElem?_eq_getElem hlt]; rfl
      exact lv_tableIn hx hb hd (fun h => hr (Or.inl h)) (fun h => hr (Or.inr h)) e1 ht (k H locs ls hO hl)
  · simp only [okI, Bool.and_eq_true, decide_eq_true_eq] at hok
    exact lv_lookup hx hb hd hok.1.2 rfl ht (k H locs ls hO hl)
theorem step5 {pc : Nat} {L L' : List (Option Value)} {st : List Value} {M : Mm} (hf : fgt L L') (k : XX p l e R s m args below meth co cells slots Q D ad cA A mi M0 (pc, L', st, M)) : XX p l e R s m args below meth co cells slots Q D ad cA A mi M0 (pc, L, st, M) :=
  fun H locs ls hO hl => k H locs ls hO (lx_fgt hl hf)
/-- behind a call -/
theorem va_callx {H : Heap} {locs : List Loc} {pc : Nat} {ls : Array Slot} {st0 rest : List Value} {a : Array Value} {M : Mm} {Φ : Option Value → Mm → Prop} (hr : va_Run p l e R s m args below meth co H locs cells slots 0 0 (F0 m pc ls st0) rest (Qcc D ad cA M Φ a) (AA ad)) (hS : va_S A s.heap H locs) (hA : ∀ q, AA ad q → A q)
    (kk : ∀ (r : Option Value) (M' : Mm) (H1 : Heap) (locs1 : List Loc), Φ r M' → va_P D clA (wd ad cA M') H1 → (∀ k, 52 ≤ k → M' k = M k) → va_S A s.heap H1 locs1 → W p l e R s m args below meth co H1 locs1 cells slots Q (F0 m (pc + 3) ls ((r.map (conc ad)).toList ++ rest))) : W p l e R s m args below meth co H locs cells slots Q (F0 m pc ls st0) := by
  intro T hT X
  obtain ⟨v, st₀, t, T', L, h0, X', hL, e1, e2, ⟨⟨r, M', hv, hp, hw, hM⟩, hz, hk⟩, st⟩ := hr T hT X
  cases hv
  rw [h0] at hz hk
  obtain ⟨t2, a1, b1⟩ := kk r M' T'.heap (locs ++ L) hp (by rw [e1]; exact hw) hM
    ⟨Nat.le_trans hS.1 (by rw [e1]; exact hz), fun q h1 h2 => by rw [e1, hk q (Nat.lt_of_lt_of_le h1 hS.1) (fun z => h2 (hA q z))]; exact hS.2.1 q h1 h2, fun q hq => by
      rcases List.mem_append.mp hq with h | h
      · exact hS.2.2 q h
      · exact hA _ (hL q h)⟩ T' rfl X'
  exact ⟨t2, st t2 a1, b1⟩
theorem good_J (mi j : Nat) (hj : j < 211) : GoodIn tbG (wsJ j) := by
  intro w hw
  rcases List.mem_cons.mp hw with rfl | h
  · refine ⟨?_, Or.inl rfl⟩
    have : Cond.code (mY j) (mB j) (mL j) (mT j) ∈ (List.range 211).map (fun j => Cond.code (mY j) (mB j) (mL j) (mT j)) := List.mem_map.mpr ⟨j, List.mem_range.mpr hj, rfl⟩
    rw [meth_code] at this
    obtain ⟨i, -, hi⟩ := List.mem_filterMap.mp this
    exact List.mem_filter.mpr ⟨List.mem_of_getElem? hi, rfl⟩
  · exact good_self (fun w h => h) w h
theorem frameBlind_P (as : List Value) (M : Mm) : FrameBlind (Pcc D ad cA as M) := by
  intro a U g mk h
  obtain ⟨h1, h2, h3, h4, h5⟩ := h
  refine ⟨h1, h2, va_K.moved (u := U) (U := U.calling g mk a) (Vm.Alike.refl U.vm) h3, ?_, fun w hw => ?_⟩
  · exact h4.to (U := U.calling g mk a) (Vm.Alike.refl U.vm) (fun _ _ _ => rfl) (fun _ h => h) (fun _ _ => rfl)
  · obtain ⟨q, hq, rfl⟩ := List.mem_map.mp hw
    exact va_Nw.same (u := U) rfl rfl (h5 _ (List.mem_map.mpr ⟨q, hq, rfl⟩))
theorem isObj_inv {c : Nat} {as : List Value} (h : isObj (.retAddr c) as = true) : ∃ k fs r, as = .ref k :: r ∧ nth axl k = some (.inr (c, fs)) := by
  unfold isObj at h
  split at h
  · rename_i k r hv
    cases hv
    split at h
    · rename_i q fs hk
      exact ⟨k, fs, r, rfl, by rw [hk, Nat.eq_of_beq_eq_true h]⟩
    · cases h
  · cases h
set_option maxHeartbeats 4000000 in
theorem step4 (F : Fx p s m args co D ad cA A mi M0) {rmK : Room} {K : Ko} (hcall : ∀ j as M Φ, j < 211 → ¬ j = 1 → K j as M Φ → Met l (mY j) (wsJ j) rmK (Pcc D ad cA as M) (Qcc D ad cA M Φ) 0 0 (AA ad))
    (hroom : rmK.cells = 0 ∧ rmK.slots = 0 ∧ rmK.frames + 1 ≤ R.frames ∧ 8 + (20 + 11) + rmK.locals ≤ R.locals) (hcs : cells ≤ R.cells ∧ slots ≤ R.slots) {i : AI} {pc j : Nat} {L : List (Option Value)} {st as rest : List Value} {M : Mm} (hok : okI mi pc i = true) (hi : inv i (pc, L, st, M) = some (j, as, rest)) (k : K j as M (fun r M' => XX p l e R s m args below meth co cells slots Q D ad cA A mi M0 (pc + 3, L, r.toList ++ rest, M'))) : XX p l e R s m args below meth co cells slots Q D ad cA A mi M0 (pc, L, st, M) := by
  obtain ⟨ins, len, ⟨a, n⟩, v⟩ := i
  obtain ⟨hx, hb, hml, hown, hts, hK, hSt, hAA, hN, hI⟩ := F
  intro H locs ls hO hl
  have hd := okI_dec hok
  have hS := hO.2.1
  have hpre : ∀ U : State, U.heap = H → s.WarmedH U.vm → (fun U => va_P D clA (wd ad cA M) U.heap ∧ Kx D ad cA M U) U := by
    intro U hU hW
    refine ⟨by rw [hU]; exact hO.1, va_K.moved hW.alike hK, ?_, fun w hw => ?_⟩
    · rw [hU]
      exact hSt.to hW.alike (fun q h1 h2 => hS.2.1 q h1 h2) hAA hO.2.2
    · have hw2 := hN w hw
      obtain ⟨q, hq, rfl⟩ := List.mem_map.mp hw
      exact va_Nw.warmM hW hw2
  have cont : ∀ (a : Array Value) (st0 : List Value), va_Run p l e R s m args below meth co H locs cells slots 0 0 (F0 m pc ls st0) (rest.map (conc ad)) (Qcc D ad cA M (fun r M' => XX p l e R s m args below meth co cells slots Q D ad cA A mi M0 (pc + 3, L, r.toList ++ rest, M')) a) (AA ad) → W p l e R s m args below meth co H locs cells slots Q (F0 m pc ls st0) := by
    intro a st0 hr
    refine va_callx hr hS hAA (fun r M' H1 locs1 hΦ hP1 hM1 hS1 => ?_)
    have h2 := hΦ H1 locs1 ls ⟨hP1, hS1, fun q hq => by rw [hM1 q hq]; exact hO.2.2 q hq⟩ hl
    have e1 : (r.toList ++ rest).map (conc ad) = (r.map (conc ad)).toList ++ rest.map (conc ad) := by cases r <;> simp
    rw [e1] at h2
    exact h2
  have hsz : ls.size = mL mi := hl.1.1
  have roomOf : ∀ rest : List Value, (rest.map Value.category).sum ≤ 8 → 2 * (F0 m pc ls (st.map (conc ad))).monitorRoom + ((rest.map (conc ad)).map fun v => v.category).sum ≤ 8 := fun r h => lv_room (by rw [conc_cats]; exact h)
  cases ins with
  | invokevirtual z =>
    simp only [inv] at hi
    cases hc : Nat.ble ((st.drop n).map Value.category).sum 8 && Nat.ble n st.length && isObj v (st.take n).reverse with
    | false => rw [hc] at hi; cases hi
    | true =>
      rw [hc] at hi
      simp only [cond_true, Option.some.injEq, Prod.mk.injEq] at hi
      obtain ⟨rfl, rfl, rfl⟩ := hi
      simp only [Bool.and_eq_true] at hc
      obtain ⟨⟨h8, hn⟩, hob⟩ := hc
      have h8 := Nat.le_of_ble_eq_true h8
      have hn := Nat.le_of_ble_eq_true hn
      simp only [okI, Bool.and_eq_true, decide_eq_true_eq, Nat.beq_eq] at hok
      obtain ⟨⟨-, hq, rfl⟩, rfl⟩ := hok
      obtain ⟨hj, hn0, hC8, hcls, hpar⟩ := virt_ok _ hq
      obtain ⟨kb, fs, r, has, hkb⟩ := isObj_inv hob
      have hj1 : ¬ a = 1 := virt_ne1 _ hq
      have hM := hcall a _ M _ hj hj1 k
      obtain ⟨hpl, hy1, hy2, hL20, -⟩ := meth_ok a hj hj1
      have hlen : (st.take n).reverse.length = n := by simp [hn]
      have hrl : r.length = n - 1 := by rw [has] at hlen; simp at hlen; omega
      have w1 := virt_link _ (List.mem_map.mpr ⟨_, hq, rfl⟩)
      have w2 := virt_inst _ (List.mem_map.mpr ⟨_, hq, rfl⟩)
      have w3 := virt_sel _ (List.mem_map.mpr ⟨_, hq, rfl⟩)
      have w4 := meth_init _ (List.mem_map.mpr ⟨a, meth_init_all a hj hj1, rfl⟩)
      have hG := good_J mi a hj
      have hcode : Cond.code (mY a) (mB a) (mL a) (mT a) ∈ wsJ a := List.mem_cons_self
      have cb : CallB R s args (cN (mC mi)) z (mY a) (mB a) (mL a) (mT a) (wsJ a) rmK 0 0 (n - 1) := by
        refine ⟨hroom.1, hroom.2.1, hroom.2.2.1, by have := hroom.2.2.2; omega, pay_in hts hG, hcode, hts _ (hG _ hcode).1, hts _ w4, ⟨hy1, hy2⟩, fun sig h => ?_, hts _ w1⟩
        rw [h] at hpar
        exact (Option.some.inj hpar).symm
      have hst : st.map (conc ad) = (r.map (conc ad)).reverse ++ .ref (ad kb) :: (st.drop n).map (conc ad) := by
        have e1 : st = st.take n ++ st.drop n := (List.take_append_drop n st).symm
        have e2 : st.take n = (Value.ref kb :: r).reverse := by rw [← has, List.reverse_reverse]
        conv => lhs; rw [e1, e2]
        simp [conc]
      rw [has] at hM
      refine cont _ _ (va_runV (C := (mY a).cls) (b := ad kb) (As := r.map (conc ad)) (rest := (st.drop n).map (conc ad)) (Ts := tbG) (nL := mL mi) ⟨hx, hb, hml, hown, hts⟩ hM ⟨cb, hts _ w2, hts _ w3⟩ ⟨frameBlind_P _ M, ?_, fun U hU hW => ⟨rfl, hpre U hU hW⟩⟩ rfl (by rw [List.length_map]; exact hrl) hsz hst (roomOf _ h8) hd ⟨hcs.1, hcs.2⟩)
      have hr := va_recv hK hO.1 (ci := mC a) (q0 := kb) (clA_Q hC8) (wd_get ad cA M hkb)
      have e3 : (clQ (mC a)).1 = (mY a).cls := by rw [(cl_ok (mC a) _ (clA_Q hC8)).2.2.2, hcls]
      rw [← e3]
      exact hr
  | invokestatic z =>
    simp only [inv] at hi
    cases hc : Nat.ble ((st.drop n).map Value.category).sum 8 && Nat.ble n st.length && Nat.blt a 999 with
    | false => rw [hc] at hi; cases hi
    | true =>
      rw [hc] at hi
      simp only [cond_true, Option.some.injEq, Prod.mk.injEq] at hi
      obtain ⟨rfl, rfl, rfl⟩ := hi
      simp only [Bool.and_eq_true, Nat.blt_eq] at hc
      obtain ⟨⟨h8, hn⟩, ha999⟩ := hc
      have h8 := Nat.le_of_ble_eq_true h8
      have hn := Nat.le_of_ble_eq_true hn
      simp only [okI, Bool.and_eq_true, decide_eq_true_eq, Nat.beq_eq] at hok
      obtain ⟨⟨-, hq⟩, rfl⟩ := hok
      have hlen : (st.take n).reverse.length = n := by simp [hn]
      have hst : st.map (conc ad) = (((st.take n).reverse).map (conc ad)).reverse ++ (st.drop n).map (conc ad) := by
        have e1 : st = st.take n ++ st.drop n := (List.take_append_drop n st).symm
        conv => lhs; rw [e1]
        simp
      rcases stat_split _ hq with h1 | h1 | h1
      · obtain ⟨hj, hpar⟩ := st1_ok _ h1
        have hj1 : ¬ a = 1 := st1_ne1 _ h1
        have hM := hcall a _ M _ hj hj1 k
        obtain ⟨hpl, hy1, hy2, hL20, -⟩ := meth_ok a hj hj1
        have w1 := st1_link _ (List.mem_map.mpr ⟨_, h1, rfl⟩)
        have w2 := st1_stat _ (List.mem_map.mpr ⟨_, h1, rfl⟩)
        have w4 := meth_init _ (List.mem_map.mpr ⟨a, meth_init_all a hj hj1, rfl⟩)
        have hG := good_J mi a hj
        have hcode : Cond.code (mY a) (mB a) (mL a) (mT a) ∈ wsJ a := List.mem_cons_self
        have cb : CallB R s args (cN (mC mi)) z (mY a) (mB a) (mL a) (mT a) (wsJ a) rmK 0 0 n := by
          refine ⟨hroom.1, hroom.2.1, hroom.2.2.1, by have := hroom.2.2.2; omega, pay_in hts hG, hcode, hts _ (hG _ hcode).1, hts _ w4, ⟨hy1, hy2⟩, fun sig h => ?_, hts _ w1⟩
          rw [h] at hpar
          exact (Option.some.inj hpar).symm
        exact cont _ _ (va_runS (As := ((st.take n).reverse).map (conc ad)) (rest := (st.drop n).map (conc ad)) (Ts := tbG) (nL := mL mi) ⟨hx, hb, hml, hown, hts⟩ hM ⟨cb, hts _ w2⟩ ⟨frameBlind_P _ M, fun U hU hW => ⟨rfl, hpre U hU hW⟩⟩ rfl (by rw [List.length_map]; exact hlen) hsz hst (roomOf _ h8) hd ⟨hcs.1, hcs.2⟩)
      · obtain ⟨hj, hpar⟩ := st2_ok _ h1
        have hj1 : ¬ a = 1 := st2_ne1 _ h1
        have hM := hcall a _ M _ hj hj1 k
        obtain ⟨hpl, hy1, hy2, hL20, -⟩ := meth_ok a hj hj1
        have w1 := hN _ (List.mem_map.mpr ⟨_, h1, rfl⟩)
        have w2 := st2_stat _ (List.mem_map.mpr ⟨_, h1, rfl⟩)
        have w4 := meth_init _ (List.mem_map.mpr ⟨a, meth_init_all a hj hj1, rfl⟩)
        have hG := good_J mi a hj
        have cn := va_cnB (args := args) (R := R) (rm := rmK) (mc := 0) (ms := 0) n hts hG rfl hroom.1 hroom.2.1 w1 (hts _ w4) ⟨hy1, hy2, hpar⟩ ⟨hroom.2.2.1, by have := hroom.2.2.2; omega⟩
        exact cont _ _ (va_runSN (As := ((st.take n).reverse).map (conc ad)) (rest := (st.drop n).map (conc ad)) (Ts := tbG) (nL := mL mi) ⟨hx, hb, hml, hown, hts⟩ hM ⟨cn, hts _ w2, trivial⟩ ⟨frameBlind_P _ M, fun U hU hW => ⟨rfl, hpre U hU hW⟩⟩ rfl (by rw [List.length_map]; exact hlen) hsz hst (roomOf _ h8) hd ⟨hcs.1, hcs.2⟩)
      · exact absurd (st3_ok _ h1) (by show ¬ a = 999; omega)
  | _ => simp [inv] at hi
end Sim
set_option maxHeartbeats 4000000 in
/-- a contract of the small machine is one of the great machine -/
theorem sim (l : Launch) (D : va_G) (ad : Nat → Nat) (cA : Nat → ClassId) (hI : Inj ad) : ∀ (d j : Nat) (as : List Value) (M : Mm) (Post : Option Value → Mm → Prop), j < 211 → ¬ j = 1 → Ct d j as M Post → Met l (mY j) (wsJ j) (rmD d) (Pcc D ad cA as M) (Qcc D ad cA M Post) 0 0 (AA ad)
  | 0, _, _, _, _, _, _, h => h.elim
  | d + 1, j, as, M, Post, hj, hj1, h => by
    obtain ⟨hcat, hw⟩ := h
    obtain ⟨hpl, -, -, hL20, hcn⟩ := meth_ok j hj hj1
    refine MetFree.of_bodySF (code := mB j) (maxLocals := mL j) (ret := mT j) hpl ?_ ?_
    · intro args s m h hn
      obtain ⟨meth, c, h1, h2, h3, h4, h5, h6, -, -⟩ := Cond.code_spec hn (atoms_spec (ws := wsJ j) h _ List.mem_cons_self)
      exact ⟨meth, c, h1, h2, h3, h4, h5, h6⟩
    · intro p e s m args below meth c s₁ B hml hP _
      obtain ⟨rfl, hP, hK, hSt, hN⟩ := hP
      have hx := B.exec
      have hb := B.bytes
      have hr := B.returns
      have hts0 := atoms_spec (ws := wsJ j) B.pre
      have hts : ∀ w ∈ tbG, w.before (as.map (conc ad)).toArray s = true := fun w h => hts0 w (List.mem_cons_of_mem _ h)
      have hown : s.vm.findClass (cN (mC j)) = some m.cls := by rw [← hcn]; exact findClass_of_methodNamed B.named
      have hlocks := B.notSynchronized
      have F : Fx p s m (as.map (conc ad)).toArray c D ad cA (AA ad) j M := ⟨hx, hb, hml, hown, hts, hK, hSt, fun _ h => h, hN, hI⟩
      have clo : Clo (Ct d) j Post (XX p l e (headSpec (wsJ j) (rmD (d + 1))).room s m (as.map (conc ad)).toArray below meth c 0 0 (MQ below (Qcc D ad cA M Post) (as.map (conc ad)).toArray s 0 0 (AA ad)) D ad cA (AA ad) j M) := by
        refine ⟨fun i c g c' a b q k => step1 F ⟨Nat.succ_le_succ (Nat.zero_le d), ?_⟩ a b q k, fun i c P c1 c2 a b k1 k2 => step2 F a b k1 k2, fun i pc t x L st M a b q k => step3 F a b q k, fun i pc j2 L st as2 rest M a b k => step4 F (rmK := rmD d) (fun j as M Φ h1 h2 h3 => sim l D ad cA hI d j as M Φ h1 h2 h3) ⟨rfl, rfl, Nat.le_refl _, ?_⟩ ⟨Nat.le_refl _, Nat.le_refl _⟩ a b k, fun pc L L' st M a k => step5 a k, ?_⟩
        · show 8 + (nativeFrameWords "java/lang/System" "arraycopy" 5 + 11) ≤ (d + 1) * 60
          have : nativeFrameWords "java/lang/System" "arraycopy" 5 ≤ 40 := by decide +kernel
          omega
        · show 8 + (20 + 11) + d * 60 ≤ (d + 1) * 60
          omega
        · intro i pc L st M1 g r hok hrt hg hp H locs ls hO hl
          obtain ⟨ins, len, ⟨a, b⟩, v⟩ := i
          have hd := okI_dec hok
          have hq : ∀ t : State, t.heap = H → s.WarmedH t.vm → Qcc D ad cA M Post (as.map (conc ad)).toArray s (.returned (r.map (conc ad))) t := fun t ht _ => ⟨⟨r, M1, rfl, hp, by rw [ht]; exact hO.1, hO.2.2⟩, hO.2.1.F ht⟩
          have hmT : mT j = (match mR j with | 0 => none | 1 => some .int | _ => some .boolean) := rfl
          unfold rtn at hrt
          split at hrt
          · rename_i hi1
            have hi1 : ins = .return_ := hi1
            subst hi1
            split at hrt
            · rename_i hk0
              cases hrt
              simp [okI] at hok
              obtain ⟨-, rfl⟩ := hok
              rw [hk0] at hmT
              exact W.vret hx hb (hr.trans hmT) hq hO.2.1.2.2 hd hlocks
            · cases hrt
          · rename_i x hi1
            have hi1 : ins = .ireturn := hi1
            subst hi1
            simp [okI] at hok
            obtain ⟨-, rfl⟩ := hok
            split at hrt
            · rename_i hk0
              cases hrt
              rw [hk0] at hmT
              exact W.iret hx hb (hr.trans hmT) hq hO.2.1.2.2 hd hlocks
            · rename_i hk0
              cases hrt
              rw [hk0] at hmT
              refine W.zret (ty := .boolean) hx hb (hr.trans hmT) ?_ hq hO.2.1.2.2 hd hlocks
              rcases hg with rfl | rfl <;> decide
            · cases hrt
          · cases hrt
      have hh0 : s₁.heap = s.heap := by rw [B.state]; rfl
      have hent := entL_args ad as (mL j) 0 hcat
      have hlen : (lg_sl (as.map (conc ad))).length ≤ mL j := by
        have : (lg_sl (as.map (conc ad))).length = (as.map Value.category).sum := by
          rw [← conc_cats ad as]
          induction as.map (conc ad) with
          | nil => rfl
          | cons v vs ih =>
            simp only [lg_sl, List.flatMap_cons, List.length_append, List.map_cons, List.sum_cons] at ih ⊢
            rw [ih]
            rcases lv_cat v with h | h <;> simp [h]
        omega
      have hle := lv_entry (as.map (conc ad)) (n := mL j) hlen
      have hW := hw _ clo s.heap [] _ ⟨hP, va_S.rf, fun _ _ => rfl⟩ ⟨⟨hle.1, hle.2.1, fun q hq => hle.2.2 q (hent.2 q hq)⟩, hent.1⟩
      rw [List.map_nil, ← lg_entry_eq] at hW
      obtain ⟨t, a1, o, b1, b2, b3⟩ := hW s₁ hh0 (Stand.of_body B)
      exact ⟨t, o, a1, b1, b2, ⟨b3.1, b3.2⟩⟩
