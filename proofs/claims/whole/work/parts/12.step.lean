/-! each instruction of the small machine is the great one's -/
section Step
variable {p : Program} {l : Launch} {e : Env} {R : Room} {s : State} {m : MethodId} {args : Array Value} {below : List Frame} {meth : Method} {co : Code} {cells slots : Nat} {Q : State → Prop} {D : va_G} {ad : Nat → Nat} {cA : Nat → ClassId} {A : Nat → Prop} {mi : Nat} {M0 : Mm}
theorem okI_dec {pc len a b : Nat} {ins : Instr} {v : Value} (h : okI mi pc (ins, len, (a, b), v) = true) : decode (mB mi) pc = .ok (ins, len) := by
  simp only [okI, Bool.and_eq_true, decide_eq_true_eq] at h
  exact h.1.1
theorem fld_word {idx a b : Nat} (h : ((mC mi, idx), (a, b)) ∈ q_fld) : a < 8 ∧ b < (clQ a).2.2 ∧ Cond.fieldLink (cN (mC mi)) idx ((clQ a).2.1 b).1 ((clQ a).2.1 b).2.1 ((clQ a).2.1 b).2.2.1 ∈ tbG :=
  ⟨(fld_lt _ h).1, (fld_lt _ h).2, fld_in _ (List.mem_map.mpr ⟨_, h, rfl⟩)⟩
/-- a write: the memory's cell k becomes f -/
theorem Okx.put {H H1 : Heap} {locs locs1 : List Loc} {M : Mm} {k : Nat} {f : Nat → Int32} (hO : Okx s D ad cA A M0 H locs M) (hk : k < 52) (hP : va_P D clA (wd ad cA (ms M k f)) H1) (hS : va_S A s.heap H1 locs1) : Okx s D ad cA A M0 H1 locs1 (ms M k f) :=
  ⟨hP, hS, fun q hq => by simp only [ms]; rw [if_neg (by omega)]; exact hO.2.2 q hq⟩
set_option maxHeartbeats 4000000 in
set_option maxRecDepth 100000 in
theorem step1 (F : Fx p s m args co D ad cA A mi M0) (hR : 1 ≤ R.frames ∧ 8 + (nativeFrameWords "java/lang/System" "arraycopy" 5 + 11) ≤ R.locals) {i : AI} {c c' : Cf} {g : Option Prop} (hok : okI mi c.1 i = true) (he : ex1 i c = some (g, c')) (hg : ∀ q, g = some q → q) (k : XX p l e R s m args below meth co cells slots Q D ad cA A mi M0 c') : XX p l e R s m args below meth co cells slots Q D ad cA A mi M0 c := by
  obtain ⟨ins, len, ⟨a, b⟩, v⟩ := i
  obtain ⟨pc, L, st, M⟩ := c
  obtain ⟨hx, hb, hml, hown, hts, hK, hSt, hAA, hN, hI⟩ := F
  intro H locs ls hO hl
  have hd := okI_dec hok
  have hP := hO.1
  have hS := hO.2.1
  have hDA := wd_D cA M hI hAA
  cases ins with
  | aload_n n =>
    obtain ⟨x, h1, rfl, rfl⟩ := x_lda_inv he
    simp [okI] at hok
    obtain rfl := hok.2
    exact lv_aload_n hx hb hd rfl (lx_at hl h1) (k H locs ls hO hl)
  | iload_n n =>
    obtain ⟨x, h1, rfl, rfl⟩ := x_ldi_inv he
    simp [okI] at hok
    obtain rfl := hok.2
    exact lv_iload_n hx hb hd rfl (lx_at hl h1) (k H locs ls hO hl)
  | lload_n n =>
    obtain ⟨x, h1, rfl, rfl⟩ := x_ldl_inv he
    simp [okI] at hok
    obtain rfl := hok.2
    exact lv_lload_n hx hb hd rfl (lx_at hl h1) (k H locs ls hO hl)
  | iload n =>
    obtain ⟨x, h1, rfl, rfl⟩ := x_ldi_inv he
    simp [okI] at hok
    obtain rfl := hok.2
    exact lv_iload hx hb hd (lx_at hl h1) (k H locs ls hO hl)
  | lload n =>
    obtain ⟨x, h1, rfl, rfl⟩ := x_ldl_inv he
    simp [okI] at hok
    obtain rfl := hok.2
    exact lv_lload hx hb hd (lx_at hl h1) (k H locs ls hO hl)
  | istore_n n =>
    obtain ⟨x, r, rfl, rfl, rfl⟩ := x_sti_inv he
    simp [okI] at hok
    obtain ⟨-, hlt, rfl⟩ := hok
    exact lv_istore_n hx hb hd rfl hl.1 hlt rfl (fun ls' h' => k H locs ls' hO (lx_set (v := .int x) hl.2 h'))
  | istore n =>
    obtain ⟨x, r, rfl, rfl, rfl⟩ := x_sti_inv he
    simp [okI] at hok
    obtain ⟨-, hlt, rfl⟩ := hok
    exact lv_istore hx hb hd hl.1 hlt rfl (fun ls' h' => k H locs ls' hO (lx_set (v := .int x) hl.2 h'))
  | lstore_n n =>
    obtain ⟨x, r, rfl, rfl, rfl⟩ := x_stl_inv he
    simp [okI] at hok
    obtain ⟨-, hlt, rfl⟩ := hok
    exact lv_lstore_n hx hb hd rfl hl.1 hlt rfl (fun ls' h' => k H locs ls' hO (lx_set2 (v := .long x) hl.2 h'))
  | lstore n =>
    obtain ⟨x, r, rfl, rfl, rfl⟩ := x_stl_inv he
    simp [okI] at hok
    obtain ⟨-, hlt, rfl⟩ := hok
    exact lv_lstore hx hb hd hl.1 hlt rfl (fun ls' h' => k H locs ls' hO (lx_set2 (v := .long x) hl.2 h'))
  | iinc n z =>
    obtain ⟨x, kk, h1, rfl, rfl, rfl⟩ := x_inc_inv he
    simp [okI] at hok
    obtain ⟨-, ⟨hlt, rfl⟩, rfl⟩ := hok
    obtain ⟨q, hq⟩ := List.getElem?_of_mem ((mem_al ad L 0 _).mpr ⟨n, _, h1, by rw [Nat.zero_add]⟩)
    exact lv_iinc hx hb hd hl.1 hq rfl hlt rfl (fun ls' h' => k H locs ls' hO (lx_set (v := .int (x + Int32.ofInt z)) hl.2 h'))
  | iconst z =>
    cases he
    simp [okI] at hok
    obtain ⟨⟨-, rfl, rfl⟩, -⟩ := hok
    exact lv_iconst hx hb hd rfl (k H locs ls hO hl)
  | bipush z =>
    cases he
    simp [okI] at hok
    obtain ⟨-, rfl, rfl⟩ := hok
    exact lv_bipush hx hb hd rfl (k H locs ls hO hl)
  | sipush z =>
    cases he
    simp [okI] at hok
    obtain ⟨-, rfl, rfl⟩ := hok
    exact lv_sipush hx hb hd rfl (k H locs ls hO hl)
  | lconst z =>
    cases he
    simp [okI] at hok
    obtain ⟨⟨-, rfl, rfl⟩, -⟩ := hok
    exact lv_lconst hx hb hd rfl (k H locs ls hO hl)
  | ldc z =>
    cases he
    simp only [okI, Bool.and_eq_true, decide_eq_true_eq, Nat.beq_eq] at hok
    obtain ⟨⟨-, ⟨rfl, hv⟩, hc⟩, -⟩ := hok
    have hw := con_in _ (List.mem_map.mpr ⟨_, hc, rfl⟩)
    cases v with
    | int y => exact lv_ldc hx hb hown (hts _ hw) hd (k H locs ls hO hl)
    | _ => simp [isI] at hv
  | ldc_w z =>
    cases he
    simp only [okI, Bool.and_eq_true, decide_eq_true_eq, Nat.beq_eq] at hok
    obtain ⟨⟨-, ⟨rfl, hv⟩, hc⟩, -⟩ := hok
    have hw := con_in _ (List.mem_map.mpr ⟨_, hc, rfl⟩)
    cases v with
    | int y => exact lv_ldcw hx hb hown (hts _ hw) hd (k H locs ls hO hl)
    | _ => simp [isI] at hv
  | ldc2_w z =>
    cases he
    simp only [okI, Bool.and_eq_true, decide_eq_true_eq, Nat.beq_eq] at hok
    obtain ⟨⟨-, ⟨rfl, hv⟩, hc⟩, -⟩ := hok
    have hw := con_in _ (List.mem_map.mpr ⟨_, hc, rfl⟩)
    cases v with
    | long y => exact lv_ldc2 hx hb hown (hts _ hw) hd (k H locs ls hO hl)
    | _ => simp [isL] at hv
  | iadd =>
    obtain ⟨x, y, r, rfl, rfl, rfl⟩ := x_ii_inv he
    simp [okI] at hok
    obtain ⟨-, rfl⟩ := hok
    exact lv_iadd hx hb hd (k H locs ls hO hl)
  | isub =>
    obtain ⟨x, y, r, rfl, rfl, rfl⟩ := x_ii_inv he
    simp [okI] at hok
    obtain ⟨-, rfl⟩ := hok
    exact lv_isub hx hb hd (k H locs ls hO hl)
  | imul =>
    obtain ⟨x, y, r, rfl, rfl, rfl⟩ := x_ii_inv he
    simp [okI] at hok
    obtain ⟨-, rfl⟩ := hok
    exact lv_imul hx hb hd (k H locs ls hO hl)
  | iand =>
    obtain ⟨x, y, r, rfl, rfl, rfl⟩ := x_ii_inv he
    simp [okI] at hok
    obtain ⟨-, rfl⟩ := hok
    exact lv_iand hx hb hd (k H locs ls hO hl)
  | ior =>
    obtain ⟨x, y, r, rfl, rfl, rfl⟩ := x_ii_inv he
    simp [okI] at hok
    obtain ⟨-, rfl⟩ := hok
    exact lv_ior hx hb hd (k H locs ls hO hl)
  | ishl =>
    obtain ⟨x, y, r, rfl, rfl, rfl⟩ := x_ii_inv he
    simp [okI] at hok
    obtain ⟨-, rfl⟩ := hok
    exact lv_ishl hx hb hd (k H locs ls hO hl)
  | idiv =>
    obtain ⟨x, y, r, rfl, rfl, rfl⟩ := x_iid_inv he
    simp [okI] at hok
    obtain ⟨-, rfl⟩ := hok
    exact lv_idiv hx hb hd (hg _ rfl) (k H locs ls hO hl)
  | irem =>
    obtain ⟨x, y, r, rfl, rfl, rfl⟩ := x_iid_inv he
    simp [okI] at hok
    obtain ⟨-, rfl⟩ := hok
    exact lv_irem hx hb hd (hg _ rfl) (k H locs ls hO hl)
  | ineg =>
    obtain ⟨x, r, rfl, rfl, rfl⟩ := x_i_inv he
    simp [okI] at hok
    obtain ⟨-, rfl⟩ := hok
    exact lv_ineg hx hb hd (k H locs ls hO hl)
  | i2l =>
    obtain ⟨x, r, rfl, rfl, rfl⟩ := x_i_inv he
    simp [okI] at hok
    obtain ⟨-, rfl⟩ := hok
    exact lv_i2l hx hb hd rfl (k H locs ls hO hl)
  | i2b =>
    obtain ⟨x, r, rfl, rfl, rfl⟩ := x_i_inv he
    simp [okI] at hok
    obtain ⟨-, rfl⟩ := hok
    exact lv_i2b hx hb hd rfl (k H locs ls hO hl)
  | i2s =>
    obtain ⟨x, r, rfl, rfl, rfl⟩ := x_i_inv he
    simp [okI] at hok
    obtain ⟨-, rfl⟩ := hok
    exact lv_i2s hx hb hd rfl (k H locs ls hO hl)
  | l2i =>
    obtain ⟨x, r, rfl, rfl, rfl⟩ := x_l2i_inv he
    simp [okI] at hok
    obtain ⟨-, rfl⟩ := hok
    exact lv_l2i hx hb hd rfl (k H locs ls hO hl)
  | lmul =>
    obtain ⟨x, y, r, rfl, rfl, rfl⟩ := x_lmul_inv he
    simp [okI] at hok
    obtain ⟨-, rfl⟩ := hok
    exact lv_lmul hx hb hd (k H locs ls hO hl)
  | lrem =>
    obtain ⟨x, y, r, rfl, rfl, rfl⟩ := x_lrem_inv he
    simp [okI] at hok
    obtain ⟨-, rfl⟩ := hok
    exact lv_lrem hx hb hd (hg _ rfl) (k H locs ls hO hl)
  | lcmp =>
    obtain ⟨x, y, r, rfl, rfl, rfl⟩ := x_lcmp_inv he
    simp [okI] at hok
    obtain ⟨-, rfl⟩ := hok
    exact W.lcmp hx hb hd (k H locs ls hO hl)
  | dup =>
    obtain ⟨w, r, rfl, hc, rfl, rfl⟩ := x_dup_inv he
    simp [okI] at hok
    obtain ⟨-, rfl⟩ := hok
    exact lv_dup hx hb hd (cat1_cat hc) (k H locs ls hO hl)
  | dup2 =>
    obtain ⟨w, u, r, rfl, hc, hc2, rfl, rfl⟩ := x_dup2_inv he
    simp [okI] at hok
    obtain ⟨-, rfl⟩ := hok
    exact lv_dup2_11 hx hb hd (cat1_cat hc) (cat1_cat hc2) (k H locs ls hO hl)
  | pop =>
    obtain ⟨w, r, rfl, hc, rfl, rfl⟩ := x_pop_inv he
    simp [okI] at hok
    obtain ⟨-, rfl⟩ := hok
    exact lv_pop hx hb hd (cat1_cat hc) (k H locs ls hO hl)
  | goto o =>
    cases he
    simp only [okI, Bool.and_eq_true, decide_eq_true_eq, Nat.beq_eq] at hok
    obtain ⟨⟨-, ht⟩, rfl⟩ := hok
    exact lv_goto hx hb hd ht (k H locs ls hO hl)
  | getfield z =>
    obtain ⟨q, fs, r, rfl, hk, rfl, hc⟩ := x_gf_inv he
    simp only [okI, Bool.and_eq_true, decide_eq_true_eq, Nat.beq_eq] at hok
    obtain ⟨⟨-, hf⟩, rfl⟩ := hok
    obtain ⟨ha8, hbN, hw⟩ := fld_word hf
    obtain ⟨hin, -, -, -⟩ := cl_ok a _ (clA_Q ha8)
    rcases hc with ⟨hn, rfl⟩ | ⟨z2, hn, rfl⟩
    · exact va_get hx hb hts hin hown hK hP q (wd_get ad cA M hk) (clA_Q ha8) b hbN (hts _ hw) (fun _ h => h) (v := .int (M q b)) (by have := fv_i ad fs 0 b (M q) hn; rw [Nat.zero_add] at this; exact this) hd (k H locs ls hO hl)
    · exact va_get hx hb hts hin hown hK hP q (wd_get ad cA M hk) (clA_Q ha8) b hbN (hts _ hw) (fun _ h => h) (v := .ref (ad z2)) (fv_r ad fs 0 b (M q) z2 hn) hd (k H locs ls hO hl)
  | putfield z =>
    obtain ⟨q, x, fs, r, rfl, hk, hn, hgg, rfl⟩ := x_pf_inv he
    simp only [okI, Bool.and_eq_true, decide_eq_true_eq, Nat.beq_eq] at hok
    obtain ⟨⟨-, hf⟩, rfl⟩ := hok
    obtain ⟨ha8, hbN, hw⟩ := fld_word hf
    obtain ⟨hin, hnm, hty, -⟩ := cl_ok a _ (clA_Q ha8)
    obtain ⟨-, hlen, hax⟩ := axl_fields hk
    obtain ⟨hfin, htyb⟩ := hax b (by rw [hlen]; exact hbN) hn
    have hty2 := hty b hbN
    have hnar : narrow (tyA a b) (.int x) = .int x ∧ fits (tyA a b) (.int x) = true := by
      rw [htyb]
      cases hB : isB a b with
      | false => exact ⟨rfl, rfl⟩
      | true =>
        rw [hB] at hgg
        rcases hg _ hgg with rfl | rfl
        · exact ⟨by decide, by decide⟩
        · exact ⟨by decide, by decide⟩
    refine va_put hx hb hts hin (tyA a) hty hnm hown hK hP hDA hS q (wd_get ad cA M hk) (clA_Q ha8) b hbN (hts _ hw) (fun _ h => h) hfin hty2 hnar.1 hnar.2 (by rw [fv_len, hlen]; exact hbN) hd (fun H1 locs1 hP1 _ hS1 => ?_)
    have e1 := fv_set ad x fs 0 b (M q) hn
    rw [Nat.zero_add] at e1
    rw [show conc ad (Value.int x) = Value.int x from rfl, e1] at hP1
    have e2 := wd_set ad cA M hk (upd (M q) b x)
    have hP2 : va_P D clA (wd ad cA (ms M q (upd (M q) b x))) H1 := e2 ▸ hP1
    exact k H1 locs1 ls (hO.put (axl_lt hk) hP2 hS1) hl
  | getstatic z =>
    cases he
    simp only [okI, Bool.and_eq_true, decide_eq_true_eq, Nat.beq_eq] at hok
    obtain ⟨⟨-, rfl, hf⟩, -⟩ := hok
    have hw := sta_in _ (List.mem_map.mpr ⟨_, hf, rfl⟩)
    exact va_gets hx hb (hSt.1 a (sta_lt _ hf)) hS hown (hts _ hw) (fun _ h => h) hd (k H locs ls hO hl)
  | iaload =>
    obtain ⟨q, z, r, rfl, rfl, hc⟩ := x_iald_inv he
    simp [okI] at hok
    obtain ⟨-, rfl⟩ := hok
    rcases hc with ⟨n, hk, rfl⟩ | ⟨h1, h2, rfl⟩
    · exact va_iald hx hb hK hP q 0 (wd_get ad cA M hk) rfl (hg _ rfl) hd (k H locs ls hO hl)
    · have hT := hSt.2 q h1 h2
      have e1 : alen M0 q = alen M q := by simp only [alen, hO.2.2 64 (by omega)]
      exact va_ti hx hb hT hS (by rw [e1]; exact hg _ rfl) (v := .int (M q z.toNatClampNeg)) (by rw [hO.2.2 q (Nat.le_trans (by decide) h1)]) hd (k H locs ls hO hl)
  | baload =>
    obtain ⟨q, z, n, r, rfl, rfl, rfl, hk⟩ := x_bald_inv he
    simp [okI] at hok
    obtain ⟨-, rfl⟩ := hok
    rcases hk with hk | hk
    · exact va_bald hx hb hK hP q 1 (wd_get ad cA M hk) rfl (hg _ rfl) hd (k H locs ls hO hl)
    · exact va_zald hx hb hK hP q 2 (wd_get ad cA M hk) rfl (hg _ rfl) hd (k H locs ls hO hl)
  | aaload =>
    obtain ⟨q, z, n, r, rfl, rfl, rfl, hk⟩ := x_aald_inv he
    simp [okI] at hok
    obtain ⟨-, rfl⟩ := hok
    exact va_aldq hx hb hK hP q 3 (wd_get ad cA M hk) rfl (hg _ rfl) hd (k H locs ls hO hl)
  | iastore =>
    obtain ⟨q, z, x, n, r, rfl, rfl, rfl, hk⟩ := x_iast_inv he
    simp [okI] at hok
    obtain ⟨-, rfl⟩ := hok
    refine va_iast hx hb hK hP hDA hS q 0 (wd_get ad cA M hk) rfl (hg _ rfl) hd (fun H1 locs1 hP1 _ hS1 => ?_)
    have e2 := wd_set ad cA M hk (upd (M q) z.toNatClampNeg x)
    have hP2 : va_P D clA (wd ad cA (ms M q (upd (M q) z.toNatClampNeg x))) H1 := e2 ▸ hP1
    exact k H1 locs1 ls (hO.put (axl_lt hk) hP2 hS1) hl
  | bastore =>
    obtain ⟨q, z, x, n, r, rfl, rfl, hk⟩ := x_bast_inv he
    simp [okI] at hok
    obtain ⟨-, rfl⟩ := hok
    rcases hk with ⟨hk, rfl⟩ | ⟨hk, rfl⟩
    · refine va_bast hx hb hK hP hDA hS q 1 (wd_get ad cA M hk) rfl (hg _ rfl) hd (fun H1 locs1 hP1 _ hS1 => ?_)
      have e2 := wd_set ad cA M hk (upd (M q) z.toNatClampNeg (vp_nar .byte x))
      have hP2 : va_P D clA (wd ad cA (ms M q (upd (M q) z.toNatClampNeg (vp_nar .byte x)))) H1 := e2 ▸ hP1
      exact k H1 locs1 ls (hO.put (axl_lt hk) hP2 hS1) hl
    · refine va_zast hx hb hK hP hDA hS q 2 (wd_get ad cA M hk) rfl (hg _ rfl) hd (fun H1 locs1 hP1 _ hS1 => ?_)
      have e2 := wd_set ad cA M hk (upd (M q) z.toNatClampNeg (vp_nar .boolean x))
      have hP2 : va_P D clA (wd ad cA (ms M q (upd (M q) z.toNatClampNeg (vp_nar .boolean x)))) H1 := e2 ▸ hP1
      exact k H1 locs1 ls (hO.put (axl_lt hk) hP2 hS1) hl
  | arraylength =>
    obtain ⟨r, rfl, rfl⟩ := x_alen_inv he
    simp [okI] at hok
    obtain ⟨-, rfl⟩ := hok
    have hT := hSt.2 63 (by omega) (by omega)
    have e1 : alen M0 63 = alen M 63 := by simp only [alen, hO.2.2 64 (by omega)]
    exact va_tlen hx hb hT hS (v := Int32.ofNat (alen M 63)) (by rw [e1]) hd (k H locs ls hO hl)
  | invokestatic z =>
    simp only [ex1] at he
    cases hz : Nat.beq a 999 with
    | false => rw [hz] at he; cases he
    | true =>
      rw [hz] at he
      have ez := Nat.eq_of_beq_eq_true hz
      subst ez
      obtain ⟨k0, k1, n0, n1, n, dp, sp, r, rfl, h0, h1, hr8, rfl, rfl⟩ := x_copy_inv he
      simp only [okI, Bool.and_eq_true, decide_eq_true_eq, Nat.beq_eq] at hok
      obtain ⟨⟨-, hf⟩, rfl⟩ := hok
      have hf3 : ((mC mi, z), (999, b)) ∈ q_st3 := by
        rcases stat_split _ hf with h | h | h
        · exact absurd rfl (st12_ok.1 _ h)
        · exact absurd rfl (st12_ok.2 _ h)
        · exact h
      have hw := st3_link _ (List.mem_map.mpr ⟨_, hf3, rfl⟩)
      obtain ⟨c1, c2, c3, c4, c5⟩ := hg _ rfl
      refine va_copyi hx hb (by rw [hml, hl.1.1]) hown (hts _ hw) (hts _ (acp_words _ (by simp))) (hts _ (acp_words _ (by simp))) (hts _ (acp_words _ (by simp))) hK hP hDA hS k0 k1 0 0 (wd_get ad cA M h0) (wd_get ad cA M h1) rfl rfl rfl c1 c2 c3 c4 c5 (fun i _ => rfl) hR.1 (by rw [conc_cats]; omega) hd (fun H1 locs1 hP1 _ hS1 => ?_)
      have e2 := wd_set ad cA M h1 (va_cpy (M k0) (M k1) sp.toNatClampNeg dp.toNatClampNeg n.toNatClampNeg)
      have hP2 : va_P D clA (wd ad cA (ms M k1 (va_cpy (M k0) (M k1) sp.toNatClampNeg dp.toNatClampNeg n.toNatClampNeg))) H1 := e2 ▸ hP1
      exact k H1 locs1 ls (hO.put (axl_lt h1) hP2 hS1) hl
  | _ => simp [ex1] at he
end Step
