/-! RIDES by draws: what a draw does -/
/-- cells that a state is kept in -/
def Out (j : Nat) : Prop := j ≤ 12 ∨ (20 ≤ j ∧ j ≤ 33) ∨ (37 ≤ j ∧ j ≤ 42) ∨ j = 44 ∨ (46 ≤ j ∧ j ≤ 49) ∨ 51 ≤ j
theorem Inv.out {M N : Mm} (hI : Inv M) (h : ∀ j, Out j → N j = M j) : Inv N := by
  have q : ∀ j, Out j → N j = M j := h
  unfold Out at q
  unfold Inv
  rw [q 0 (by omega), q 2 (by omega), q 3 (by omega), q 4 (by omega), q 5 (by omega), q 6 (by omega), q 7 (by omega), q 8 (by omega), q 9 (by omega), q 10 (by omega), q 11 (by omega), q 12 (by omega)]
  rw [q 20 (by omega), q 21 (by omega), q 22 (by omega), q 23 (by omega), q 24 (by omega), q 25 (by omega), q 26 (by omega), q 27 (by omega), q 28 (by omega), q 29 (by omega), q 30 (by omega), q 31 (by omega), q 32 (by omega), q 33 (by omega)]
  rw [q 37 (by omega), q 38 (by omega), q 39 (by omega), q 40 (by omega), q 41 (by omega), q 42 (by omega), q 44 (by omega), q 46 (by omega), q 47 (by omega), q 48 (by omega), q 49 (by omega), q 51 (by omega), q 60 (by omega), q 61 (by omega), q 62 (by omega)]
  exact hI
theorem relB_self (v : Nat → Int32) : RelB (fun i => if i = 4 then v 0 else if i < 4 then v i else v (i - 1)) (fun i => v (8 + i)) (fun i => v (11 + i)) (fun i => v (17 + i)) (fun i => v (29 + i)) (fun i => v (23 + i)) v :=
  ⟨⟨rfl, rfl, rfl, rfl, rfl, rfl, rfl, rfl⟩, fun _ _ => rfl, fun _ _ => ⟨rfl, rfl, rfl⟩, fun _ _ => rfl⟩
theorem moved_vb {v v' : Nat → Int32} (hV : VB v) (hv : ∀ i, i < 4 ∨ (8 ≤ i ∧ i < 29) → v' i = v i) (hon : ∀ i : Nat, (i : Int) < (v 2).toInt → 0 ≤ (v' (29 + i)).toInt ∧ (v' (29 + i)).toInt ≤ 99999) (b4 : 0 ≤ (v' 4).toInt ∧ (v' 4).toInt < (v 1).toInt) (b5 : 0 ≤ (v' 5).toInt ∧ (v' 5).toInt < (v 2).toInt) (b6 : 0 ≤ (v' 6).toInt ∧ (v' 6).toInt ≤ (v 3).toInt) (b7 : 0 ≤ (v' 7).toInt ∧ (v' 7).toInt ≤ 99999) : VB v' := by
  refine (moved_bike (f' := fun i => if i = 4 then v' 0 else if i < 4 then v' i else v' (i - 1)) (on' := fun i => v' (29 + i)) (v' := v') (relB_self v) hV ?_ rfl rfl rfl rfl hv (fun i hi => ⟨rfl, hon i hi⟩) b4 b5 b6 b7).2.1
  intro i h1 h4
  show (if i = 4 then v' 0 else if i < 4 then v' i else v' (i - 1)) = (if i = 4 then v 0 else if i < 4 then v i else v (i - 1))
  by_cases e : i = 4
  · rw [if_pos e, if_pos e, hv 0 (by omega)]
  · rw [if_neg e, if_neg e, if_pos (by omega), if_pos (by omega), hv i (by omega)]
/-- alike but for the TURNS that were made -/
def Agr (u w : Nat → Int32) : Prop := ∀ i, i < 29 → ¬ i = 7 → u i = w i
theorem agr_mlv {u w : Nat → Int32} (h : Agr u w) {c : Nat} (hc : c < 6) (p : Int32) : mlv u c p = mlv w c p := by
  unfold mlv; rw [h (11 + c) (by omega) (by omega)]
theorem agr_tov {u w : Nat → Int32} (h : Agr u w) {c : Nat} (hc : c < 6) : tov u c = tov w c := by
  unfold tov; rw [h (11 + c) (by omega) (by omega)]
theorem agr_tnv {u w : Nat → Int32} (h : Agr u w) {r c : Nat} (hr : r < 3) (hc : c < 6) : tnv u r c = tnv w r c := by
  unfold tnv; rw [h (11 + c) (by omega) (by omega), h (17 + c) (by omega) (by omega), h (8 + r) (by omega) (by omega)]
theorem agr_ldv {u w : Nat → Int32} (h : Agr u w) {r c : Nat} (hr : r < 3) (hc : c < 6) (s : Int32) : ldv u r c s = ldv w r c s := by
  unfold ldv; rw [h (11 + c) (by omega) (by omega), h (17 + c) (by omega) (by omega), h (8 + r) (by omega) (by omega)]
/-- the COG, the RING, as places -/
def cg (w : Nat → Int32) : Nat := (w 5).toNatClampNeg
def rn (w : Nat → Int32) : Nat := (w 4).toNatClampNeg
theorem VB.now {v : Nat → Int32} (hV : VB v) : ((rn v : Nat) : Int) < (v 1).toInt ∧ ((cg v : Nat) : Int) < (v 2).toInt ∧ rn v < 3 ∧ cg v < 6 ∧ ¬ ig v (6 * v 4 + v 5) = 0 ∧ (6 * v 4 + v 5) / 6 = nI (rn v) ∧ irm (6 * v 4 + v 5) 6 = nI (cg v) ∧ v 4 = nI (rn v) ∧ v 5 = nI (cg v) := by
  obtain ⟨hg, r, c, hr, hc, hr3, hc6, er, ec, ev4, ev5⟩ := gear_now hV (a := 6 * v 4 + v 5) rfl
  have e1 : rn v = r := by unfold rn; rw [ev4, nI_clamp (by omega)]
  have e2 : cg v = c := by unfold cg; rw [ev5, nI_clamp (by omega)]
  rw [e1, e2]
  exact ⟨hr, hc, hr3, hc6, hg, er, ec, ev4, ev5⟩
theorem VB.at_ {v : Nat → Int32} (hV : VB v) : ∃ p n : Nat, v 6 = nI p ∧ v 3 = nI n ∧ p ≤ n ∧ 1 ≤ n ∧ n ≤ 6 ∧ (v 3).toInt = n ∧ (v 6).toInt = p := by
  obtain ⟨⟨a1, a2, a3, a4, a5, a6, a7, a8⟩, -⟩ := hV
  obtain ⟨p, ep, hp⟩ := ix_nI (b := v 6) (by omega)
  obtain ⟨n, en, hn⟩ := ix_nI (b := v 3) (by omega)
  exact ⟨p, n, ep, en, by omega, by omega, by omega, by omega, by omega⟩
def ml (w : Nat → Int32) (d : Int32) : Int32 := if wi (w 5 + d) 0 (w 2 - 1) = 0 then 0 else mlv w (cg w) (w 6)
/-- a SHIFT of COGS, of RINGS, what is ridden: the row behind it, and TURNS -/
def dC (d : Int32) (w : Nat → Int32) : (Nat → Int32) × Int32 := if ml w d = 0 then (w, 0) else (upd w 5 (w 5 + d), tov w (w 5 + d).toNatClampNeg)
def dR (g : Int32) (w : Nat → Int32) : (Nat → Int32) × Int32 := (upd w 4 g, if g = w 4 then 0 else 5)
def dG (w : Nat → Int32) : (Nat → Int32) × Int32 × Int32 := if w 6 = w 3 then (abV w (w 3).toNatClampNeg, 0, 0) else if crv w (rn w) (cg w) = 0 then (w, 0, 0) else (upd w 6 (w 6 + 1), tnv w (rn w) (cg w), 1)
theorem dC_vb {w : Nat → Int32} (hV : VB w) (d : Int32) : VB (dC d w).1 ∧ 0 ≤ (dC d w).2.toInt ∧ (dC d w).2.toInt ≤ 3 := by
  unfold dC
  by_cases h : ml w d = 0
  · rw [if_pos h]; exact ⟨hV, (by decide : 0 ≤ (0 : Int32).toInt), (by decide : (0 : Int32).toInt ≤ 3)⟩
  · rw [if_neg h]
    have tb := tov_bnd w (w 5 + d).toNatClampNeg
    obtain ⟨⟨a1, a2, a3, a4, a5, a6, a7, a8⟩, vr, vc, vs⟩ := id hV
    have hw : ¬ wi (w 5 + d) 0 (w 2 - 1) = 0 := fun z => h (by unfold ml; rw [if_pos z])
    obtain ⟨c', ec', hc'⟩ := wi_nI (by omega) hw
    refine ⟨moved_vb (v' := upd w 5 (w 5 + d)) hV (fun i hi => pk_un (by omega)) (fun i hi => ?_) ?_ ?_ ?_ ?_, by show 0 ≤ (tov w (w 5 + d).toNatClampNeg).toInt; omega, by show (tov w (w 5 + d).toNatClampNeg).toInt ≤ 3; omega⟩
    · rw [pk_un (by omega)]; exact (vc i hi).2.2
    · rw [pk_un (by omega)]; exact a5
    · rw [pk_us, ec', nI_toInt (by omega)]; omega
    · rw [pk_un (by omega)]; exact a7
    · rw [pk_un (by omega)]; exact a8
theorem dR_vb {w : Nat → Int32} (hV : VB w) {g : Int32} (h0 : 0 ≤ g.toInt) (h1 : g.toInt < (w 1).toInt) : VB (dR g w).1 ∧ 0 ≤ (dR g w).2.toInt ∧ (dR g w).2.toInt ≤ 5 := by
  obtain ⟨⟨a1, a2, a3, a4, a5, a6, a7, a8⟩, vr, vc, vs⟩ := id hV
  refine ⟨moved_vb (v' := upd w 4 g) hV (fun i hi => pk_un (by omega)) (fun i hi => ?_) ?_ ?_ ?_ ?_, ?_⟩
  · rw [pk_un (by omega)]; exact (vc i hi).2.2
  · rw [pk_us]; omega
  · rw [pk_un (by omega)]; exact a6
  · rw [pk_un (by omega)]; exact a7
  · rw [pk_un (by omega)]; exact a8
  · unfold dR; show 0 ≤ (if g = w 4 then (0 : Int32) else 5).toInt ∧ (if g = w 4 then (0 : Int32) else 5).toInt ≤ 5
    split <;> decide
theorem dG_vb {w : Nat → Int32} (hV : VB w) : VB (dG w).1 ∧ 0 ≤ (dG w).2.1.toInt ∧ (dG w).2.1.toInt ≤ 251 := by
  obtain ⟨⟨a1, a2, a3, a4, a5, a6, a7, a8⟩, vr, vc, vs⟩ := id hV
  obtain ⟨p, n, ep, en, hpn, hn1, hn6, gn, gp⟩ := hV.at_
  obtain ⟨hr, hc, hr3, hc6, hg, er, ec, ev4, ev5⟩ := hV.now
  unfold dG
  by_cases h : w 6 = w 3
  · rw [if_pos h, en, nI_clamp (by omega)]
    exact ⟨(about_bike (relB_self w) hV en hn1 hn6).2.1, (by decide : 0 ≤ (0 : Int32).toInt), (by decide : (0 : Int32).toInt ≤ 251)⟩
  · rw [if_neg h]
    by_cases h2 : crv w (rn w) (cg w) = 0
    · rw [if_pos h2]; exact ⟨hV, (by decide : 0 ≤ (0 : Int32).toInt), (by decide : (0 : Int32).toInt ≤ 251)⟩
    · rw [if_neg h2]
      have tb := tn_bnd hV hr hc
      have hne : ¬ (w 6).toInt = (w 3).toInt := fun q => h (tI_eq.mpr q)
      have e1 : (1 : Int32).toInt = 1 := by decide
      have e6 : (w 6 + 1).toInt = (w 6).toInt + 1 := by rw [tI_add (by rw [e1]; omega) (by rw [e1]; omega), e1]
      refine ⟨moved_vb (v' := upd w 6 (w 6 + 1)) hV (fun i hi => pk_un (by omega)) (fun i hi => ?_) ?_ ?_ ?_ ?_, by show 0 ≤ (tnv w (rn w) (cg w)).toInt; omega, by show (tnv w (rn w) (cg w)).toInt ≤ 251; omega⟩
      · rw [pk_un (by omega)]; exact (vc i hi).2.2
      · rw [pk_un (by omega)]; exact a5
      · rw [pk_un (by omega)]; exact a6
      · rw [pk_us]; omega
      · rw [pk_un (by omega)]; exact a8
/-- the class's spare BIKE beside the row w; S TURNS so far -/
def KD (N M : Mm) (w : Nat → Int32) (S : Int32) : Prop := ∃ u : Nat → Int32, (∀ j, ¬ (13 ≤ j ∧ j ≤ 18) → M j = N j) ∧ RelB (M 13) (M 14) (M 15) (M 16) (M 17) (M 18) u ∧ VB u ∧ Agr u w ∧ u 7 = S
theorem cap_id {x n : Int32} (h0 : 0 ≤ x.toInt) (h1 : x.toInt ≤ 90000) (n0 : 0 ≤ n.toInt) (n1 : n.toInt ≤ 300) : cap (x + n) = x + n := by
  have e : (99999 : Int32).toInt = 99999 := by decide
  have ea : (x + n).toInt = x.toInt + n.toInt := tI_add (by omega) (by omega)
  unfold cap
  rw [if_pos (by rw [tI_le, ea, e]; omega)]
section Draws
variable {N M : Mm} {w : Nat → Int32} {S : Int32}
theorem kd_shift (h : KD N M w S) (hw : VB w) (s0 : 0 ≤ S.toInt) (s1 : S.toInt ≤ 90000) (d : Int32) (Φ : Mm → Prop) (k : ∀ M1, KD N M1 (dC d w).1 (S + (dC d w).2) → Φ M1) : S_shiftIfMay M d Φ := by
  obtain ⟨u, ho, hR, hV, hA, hS⟩ := id h
  obtain ⟨hr, hc, hr3, hc6, hg, er, ec, ev4, ev5⟩ := hV.now
  have a5 := hA 5 (by omega) (by omega)
  have a2 := hA 2 (by omega) (by omega)
  have a6 := hA 6 (by omega) (by omega)
  have ecg : cg u = cg w := by unfold cg; rw [a5]
  unfold S_shiftIfMay
  refine v_canShift (k := 13) hR hc hc6 ev5 d _ ?_
  have eml : (if wi (u 5 + d) 0 (u 2 - 1) = 0 then 0 else mlv u (cg u) (u 6)) = ml w d := by
    unfold ml; rw [a5, a2, a6, ecg, agr_mlv hA (by rw [← ecg]; exact hc6)]
  rw [eml]
  unfold dC at k
  refine ⟨fun z => ?_, fun z => ?_⟩
  · rw [if_pos z] at k
    refine k M ?_
    show KD N M w (S + 0)
    rw [Int32.add_zero]; exact h
  · rw [if_neg z] at k
    have hwi : ¬ wi (w 5 + d) 0 (w 2 - 1) = 0 := fun q => z (by unfold ml; rw [if_pos q])
    obtain ⟨c', ec', hc'⟩ := wi_nI (by have := hw.1.2.1; omega) hwi
    have hc6' : c' < 6 := by have := hw.1.2.1; omega
    have euc : u 5 + d = nI c' := by rw [a5, ec']
    have hcu : (c' : Int) < (u 2).toInt := by rw [a2]; exact hc'
    have ecl : (w 5 + d).toNatClampNeg = c' := by rw [ec', nI_clamp (by omega)]
    rw [ecl] at k
    refine v_shiftCog (k := 13) (v := u) hR hcu hc6' euc _ (k _ ?_)
    have et := agr_tov hA hc6'
    generalize ht : tov u c' = t at et ⊢
    have tb := tov_bnd u c'
    rw [ht] at tb
    obtain ⟨⟨r1, r2, r3, r4, r5, r6, r7, r8⟩, -, hcc, hsl⟩ := id hR
    obtain ⟨⟨b1, b2, b3, b4, b5, b6, b7, b8⟩, -, vc, -⟩ := id hV
    have hbv := (vc c' hcu).2.2
    have ec7 := cap_bnd b8.1 b8.2 (n := t) (by omega) (by omega)
    have ec29 := cap_bnd hbv.1 hbv.2 (n := t) (by omega) (by omega)
    have gc := nI_toInt (n := c') (by omega)
    have hm := moved_bike (f' := upd (upd (M 13) 6 (M 13 6 + d)) 8 (cap (M 13 8 + t))) (on' := upd (M 17) c' (cap (M 17 c' + t))) (v' := upd (upd (upd u 5 (nI c')) 7 (cap (u 7 + t))) (29 + c') (cap (u (29 + c') + t))) hR hV ?_ ?_ ?_ ?_ ?_ ?_ ?_ ?_ ?_ ?_ ?_
    · refine ⟨_, ?_, hm.1, hm.2.1, fun i hi h7 => ?_, ?_⟩
      · intro j hj
        unfold ShM
        rw [mu_ne _ _ _ (by omega), mu_ne _ _ _ (by omega), mu_ne _ _ _ (by omega)]
        exact ho j hj
      · rw [pk_un (by omega), pk_un h7]
        show upd u 5 (nI c') i = upd w 5 (w 5 + d) i
        by_cases q : i = 5
        · rw [q, pk_us, pk_us, ec']
        · rw [pk_un q, pk_un q]; exact hA i hi h7
      · rw [pk_un (by omega), pk_us, hS, cap_id s0 s1 (by omega) (by omega), et]
    · intro i h1 h4
      rw [pk_un (by omega), pk_un (by omega)]
    · rw [pk_un (by decide), pk_un (by decide), pk_un (by omega), pk_un (by decide), pk_un (by decide)]; exact r5
    · rw [pk_un (by decide), pk_us, pk_un (by omega), pk_un (by decide), pk_us, r6]; exact euc
    · rw [pk_un (by decide), pk_un (by decide), pk_un (by omega), pk_un (by decide), pk_un (by decide)]; exact r7
    · rw [pk_us, pk_un (by omega), pk_us, r8]
    · intro i hi
      rw [pk_un (by omega), pk_un (by omega), pk_un (by omega)]
    · intro i hi
      by_cases h : i = c'
      · subst h
        rw [pk_us, pk_us, (hcc i hi).2.2]; exact ⟨rfl, ec29⟩
      · rw [pk_un h, pk_un (by omega), pk_un (by omega), pk_un (by omega)]
        exact ⟨(hcc i hi).2.2, (vc i hi).2.2⟩
    · rw [pk_un (by omega), pk_un (by decide), pk_un (by decide)]; exact b5
    · rw [pk_un (by omega), pk_un (by decide), pk_us]; omega
    · rw [pk_un (by omega), pk_un (by decide), pk_un (by decide)]; exact b7
    · rw [pk_un (by omega), pk_us]; exact ec7
theorem kd_ring (h : KD N M w S) (s0 : 0 ≤ S.toInt) (s1 : S.toInt ≤ 90000) {g : Int32} (g0 : 0 ≤ g.toInt) (g1 : g.toInt < (w 1).toInt) (hne : ¬ g = w 4) (Φ : Mm → Prop) (k : ∀ M1, KD N M1 (dR g w).1 (S + (dR g w).2) → Φ M1) : S_Bike_shiftRing 13 M g Φ := by
  obtain ⟨u, ho, hR, hV, hA, hS⟩ := id h
  refine v_shiftRing (M := M) 13 g _ (k _ ?_)
  obtain ⟨⟨r1, r2, r3, r4, r5, r6, r7, r8⟩, -, hcc, hsl⟩ := id hR
  obtain ⟨⟨b1, b2, b3, b4, b5, b6, b7, b8⟩, -, vc, -⟩ := id hV
  have a1 := hA 1 (by omega) (by omega)
  have e5 : (5 : Int32).toInt = 5 := by decide
  have ec7 := cap_bnd b8.1 b8.2 (n := 5) (by rw [e5]; omega) (by rw [e5]; omega)
  have hm := moved_bike (f' := upd (upd (M 13) 5 g) 8 (cap (M 13 8 + 5))) (on' := M 17) (v' := upd (upd u 4 g) 7 (cap (u 7 + 5))) hR hV ?_ ?_ ?_ ?_ ?_ ?_ ?_ ?_ ?_ ?_ ?_
  · refine ⟨_, ?_, hm.1, hm.2.1, fun i hi h7 => ?_, ?_⟩
    · intro j hj
      rw [mu_ne _ _ _ (by omega), mu_ne _ _ _ (by omega)]
      exact ho j hj
    · rw [pk_un h7]
      show upd u 4 g i = upd w 4 g i
      by_cases q : i = 4
      · rw [q, pk_us, pk_us]
      · rw [pk_un q, pk_un q]; exact hA i hi h7
    · rw [pk_us, hS, cap_id s0 s1 (by rw [e5]; omega) (by rw [e5]; omega)]
      unfold dR
      show S + 5 = S + (if g = w 4 then 0 else 5)
      rw [if_neg hne]
  · intro i h1 h4
    rw [pk_un (by omega), pk_un (by omega)]
  · rw [pk_un (by decide), pk_us, pk_un (by decide), pk_us]
  · rw [pk_un (by decide), pk_un (by decide), pk_un (by decide), pk_un (by decide)]; exact r6
  · rw [pk_un (by decide), pk_un (by decide), pk_un (by decide), pk_un (by decide)]; exact r7
  · rw [pk_us, pk_us, r8]
  · intro i hi
    rw [pk_un (by omega), pk_un (by omega)]
  · intro i hi
    rw [pk_un (by omega), pk_un (by omega)]
    exact ⟨(hcc i hi).2.2, (vc i hi).2.2⟩
  · rw [pk_un (by decide), pk_us, a1]; omega
  · rw [pk_un (by decide), pk_un (by decide)]; exact b6
  · rw [pk_un (by decide), pk_un (by decide)]; exact b7
  · rw [pk_us]; exact ec7
theorem kd_go (h : KD N M w S) (s0 : 0 ≤ S.toInt) (s1 : S.toInt ≤ 90000) (Φ : Int32 → Mm → Prop) (k : ∀ M1, KD N M1 (dG w).1 (S + (dG w).2.1) → Φ (dG w).2.2 M1) : S_goOn M Φ := by
  obtain ⟨u, ho, hR, hV, hA, hS⟩ := id h
  obtain ⟨hr, hc, hr3, hc6, hg, er, ec, ev4, ev5⟩ := hV.now
  obtain ⟨p, n, ep, en, hpn, hn1, hn6, gn, gp⟩ := hV.at_
  obtain ⟨⟨r1, r2, r3, r4, r5, r6, r7, r8⟩, -, hcc, hsl⟩ := id hR
  obtain ⟨⟨b1, b2, b3, b4, b5, b6, b7, b8⟩, -, vc, -⟩ := id hV
  have a3 := hA 3 (by omega) (by omega)
  have a4 := hA 4 (by omega) (by omega)
  have a5 := hA 5 (by omega) (by omega)
  have a6 := hA 6 (by omega) (by omega)
  have a0 := hA 0 (by omega) (by omega)
  have ecg : cg u = cg w := by unfold cg; rw [a5]
  have ern : rn u = rn w := by unfold rn; rw [a4]
  unfold S_goOn
  rw [r7, r3]
  unfold dG at k
  refine ⟨fun z => ?_, fun z => ?_⟩
  · rw [tI_lt] at z
    have hne : ¬ w 6 = w 3 := by rw [← a6, ← a3, tI_eq]; omega
    rw [if_neg hne] at k
    refine v_canRide (k := 13) hR hV hr hc hr3 hc6 hg er ec _ ?_
    have ecr : crv u (rn u) (cg u) = crv w (rn w) (cg w) := by
      unfold crv
      rw [a6, a3, if_neg hne, if_neg hne, a0, ← a6, ep, nI_clamp (by omega), hA (23 + p) (by omega) (by omega), agr_ldv hA hr3 hc6, ern, ecg]
    rw [ecr]
    refine ⟨fun q => ?_, fun q => ?_⟩
    · rw [if_pos q] at k
      refine k M ?_
      show KD N M w (S + 0)
      rw [Int32.add_zero]; exact h
    · rw [if_neg q] at k
      refine v_rideOn (k := 13) (v := u) hR hV hr hc hr3 hc6 hg er ec ev5 _ (k _ ?_)
      have et := agr_tnv hA hr3 hc6
      have tb := tn_bnd hV hr hc
      generalize ht : tnv u (rn u) (cg u) = t at et tb ⊢
      have hbv := (vc (cg u) hc).2.2
      have ec7 := cap_bnd b8.1 b8.2 (n := t) (by omega) (by omega)
      have ec29 := cap_bnd hbv.1 hbv.2 (n := t) (by omega) (by omega)
      have e1 : (1 : Int32).toInt = 1 := by decide
      have e6 : (u 6 + 1).toInt = (u 6).toInt + 1 := by rw [tI_add (by rw [e1]; omega) (by rw [e1]; omega), e1]
      generalize hcv : cg u = c at *
      have hm := moved_bike (f' := upd (upd (M 13) 8 (cap (M 13 8 + t))) 7 (M 13 7 + 1)) (on' := upd (M 17) c (cap (M 17 c + t))) (v' := upd (upd (upd u 7 (cap (u 7 + t))) (29 + c) (cap (u (29 + c) + t))) 6 (u 6 + 1)) hR hV ?_ ?_ ?_ ?_ ?_ ?_ ?_ ?_ ?_ ?_ ?_
      · refine ⟨_, ?_, hm.1, hm.2.1, fun i hi h7 => ?_, ?_⟩
        · intro j hj
          unfold RideM
          rw [mu_ne _ _ _ (by omega), mu_ne _ _ _ (by omega), mu_ne _ _ _ (by omega)]
          exact ho j hj
        · show upd (upd (upd u 7 (cap (u 7 + t))) (29 + c) (cap (u (29 + c) + t))) 6 (u 6 + 1) i = upd w 6 (w 6 + 1) i
          by_cases q : i = 6
          · rw [q, pk_us, pk_us, a6]
          · rw [pk_un q, pk_un q, pk_un (by omega), pk_un h7]; exact hA i hi h7
        · rw [pk_un (by decide), pk_un (by omega), pk_us, hS, cap_id s0 s1 (by omega) (by omega), et]
          rw [ern, ecg]
      · intro i h1 h4
        rw [pk_un (by omega), pk_un (by omega)]
      · rw [pk_un (by decide), pk_un (by decide), pk_un (by decide), pk_un (by omega), pk_un (by decide)]; exact r5
      · rw [pk_un (by decide), pk_un (by decide), pk_un (by decide), pk_un (by omega), pk_un (by decide)]; exact r6
      · rw [pk_us, pk_us, r7]
      · rw [pk_un (by decide), pk_us, pk_un (by decide), pk_un (by omega), pk_us, r8]
      · intro i hi
        rw [pk_un (by omega), pk_un (by omega), pk_un (by omega)]
      · intro i hi
        rw [pk_un (j := 29 + i) (by omega)]
        by_cases h : i = c
        · subst h
          rw [pk_us, pk_us, (hcc i hi).2.2]; exact ⟨rfl, ec29⟩
        · rw [pk_un h, pk_un (by omega), pk_un (by omega)]
          exact ⟨(hcc i hi).2.2, (vc i hi).2.2⟩
      · rw [pk_un (by decide), pk_un (by omega), pk_un (by decide)]; exact b5
      · rw [pk_un (by decide), pk_un (by omega), pk_un (by decide)]; exact b6
      · rw [pk_us]; omega
      · rw [pk_un (by decide), pk_un (by omega), pk_us]; exact ec7
  · rw [tI_lt] at z
    have he : w 6 = w 3 := by rw [← a6, ← a3, tI_eq]; omega
    have ecl : (w 3).toNatClampNeg = n := by rw [← a3, en, nI_clamp (by omega)]
    rw [if_pos he, ecl] at k
    refine v_turnAbout (M := M) 13 (r3.trans en) hn1 hn6 _ (k _ ?_)
    have hm := about_bike hR hV en hn1 hn6
    refine ⟨_, ?_, hm.1, hm.2.1, fun i hi h7 => ?_, ?_⟩
    · intro j hj
      rw [mu_ne _ _ _ (by omega)]
      unfold ms
      rw [if_neg (by omega)]
      exact ho j hj
    · show abV u n i = abV w n i
      by_cases q : i = 6
      · rw [q]; unfold abV; rw [pk_us, pk_us, a6]
      · by_cases q2 : 23 ≤ i ∧ i < 23 + n
        · obtain ⟨z, rfl⟩ : ∃ z, i = 23 + z := ⟨i - 23, by omega⟩
          rw [abV_at u (by omega), abV_at w (by omega), hA _ (by omega) (by omega)]
        · rw [abV_out u (by omega) q, abV_out w (by omega) q]; exact hA i hi h7
    · show abV u n 7 = S + 0
      rw [abV_out u (by omega) (by decide), Int32.add_zero]; exact hS
end Draws
