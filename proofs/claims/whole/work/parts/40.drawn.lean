/-! drawn -/
theorem l_bmod {z : Int} (h1 : -9223372036854775808 ≤ z) (h2 : z ≤ 9223372036854775807) : z.bmod (2 ^ 64) = z := by
  apply Int.bmod_eq_of_le
  · omega
  · omega
theorem l_bnd (x : Int64) : -9223372036854775808 ≤ x.toInt ∧ x.toInt ≤ 9223372036854775807 := by
  have h1 := Int64.le_toInt x
  have h2 := Int64.toInt_lt x
  omega
theorem l_rem {a d : Int64} (ha : 0 ≤ a.toInt) (hd : 0 < d.toInt) : (lrm a d).toInt = a.toInt % d.toInt := by
  have ba := l_bnd a
  have h0 : (a / d).toInt = a.toInt / d.toInt := by
    rw [Int64.toInt_div, Int.tdiv_eq_ediv_of_nonneg ha]
    have h1 : 0 ≤ a.toInt / d.toInt := Int.ediv_nonneg ha (by omega)
    have h2 : a.toInt / d.toInt ≤ a.toInt := Int.ediv_le_self _ ha
    exact l_bmod (by omega) (by omega)
  have h3 := Int.mul_ediv_add_emod a.toInt d.toInt
  have h4 := Int.emod_nonneg a.toInt (by omega : d.toInt ≠ 0)
  have h5 := Int.emod_lt_of_pos a.toInt hd
  have h6 : (a / d).toInt * d.toInt = d.toInt * (a.toInt / d.toInt) := by rw [h0, Int.mul_comm]
  have h7 : 0 ≤ a.toInt / d.toInt := Int.ediv_nonneg ha (by omega)
  have h8 : 0 ≤ d.toInt * (a.toInt / d.toInt) := Int.mul_nonneg (by omega) h7
  have h9 : (a / d * d).toInt = d.toInt * (a.toInt / d.toInt) := by
    rw [Int64.toInt_mul, h6]; exact l_bmod (by omega) (by omega)
  unfold lrm
  rw [Int64.toInt_sub, h9, l_bmod (by omega) (by omega)]
  omega
/-- the next draw -/
def nxx (x : Int64) : Int64 := lrm (x * 16807) 2147483647
theorem nxx_b {x : Int64} (h0 : 0 ≤ x.toInt) (h1 : x.toInt ≤ 2147483646) : 0 ≤ (nxx x).toInt ∧ (nxx x).toInt ≤ 2147483646 := by
  have e1 : (16807 : Int64).toInt = 16807 := by decide
  have e2 : (2147483647 : Int64).toInt = 2147483647 := by decide
  have m : (x * 16807).toInt = x.toInt * 16807 := by rw [Int64.toInt_mul, e1]; exact l_bmod (by omega) (by omega)
  have l := l_rem (a := x * 16807) (d := 2147483647) (by omega) (by rw [e2]; omega)
  rw [e2] at l
  unfold nxx
  omega
def dB (x : Int64) : Int32 := Int64.toInt32 (lrm x 4)
theorem dB_b {x : Int64} (h0 : 0 ≤ x.toInt) : 0 ≤ (dB x).toInt ∧ (dB x).toInt ≤ 3 := by
  have e4 : (4 : Int64).toInt = 4 := by decide
  have l := l_rem (a := x) (d := 4) h0 (by rw [e4]; omega)
  rw [e4] at l
  unfold dB
  rw [Int64.toInt_toInt32, l, bmod_in (by omega) (by omega)]
  omega
def dg (x : Int64) (w : Nat → Int32) : Int32 := Int64.toInt32 (lrm x (Int32.toInt64 (w 1)))
theorem dg_b {x : Int64} {w : Nat → Int32} (h0 : 0 ≤ x.toInt) (hV : VB w) : 0 ≤ (dg x w).toInt ∧ (dg x w).toInt < (w 1).toInt := by
  have a1 := hV.1.1
  have e : (Int32.toInt64 (w 1)).toInt = (w 1).toInt := Int32.toInt_toInt64 _
  have l := l_rem (a := x) (d := Int32.toInt64 (w 1)) h0 (by rw [e]; omega)
  rw [e] at l
  have q1 := Int.emod_nonneg x.toInt (by omega : (w 1).toInt ≠ 0)
  have q2 := Int.emod_lt_of_pos x.toInt (by omega : 0 < (w 1).toInt)
  unfold dg
  rw [Int64.toInt_toInt32, l, bmod_in (by omega) (by omega)]
  omega
/-- what a draw shifts; a step; steps -/
def dA (x : Int64) (w : Nat → Int32) : (Nat → Int32) × Int32 := if dB x = 0 then dC 1 w else if dB x = 1 then dC (-1) w else if dB x = 2 ∧ lg_cmp (lrm x 3) 0 = 0 then dR (dg x w) w else (w, 0)
theorem dA_vb {x : Int64} {w : Nat → Int32} (h0 : 0 ≤ x.toInt) (hV : VB w) : VB (dA x w).1 ∧ 0 ≤ (dA x w).2.toInt ∧ (dA x w).2.toInt ≤ 5 := by
  unfold dA
  by_cases q0 : dB x = 0
  · rw [if_pos q0]; have := dC_vb hV 1; exact ⟨this.1, by omega, by omega⟩
  · rw [if_neg q0]
    by_cases q1 : dB x = 1
    · rw [if_pos q1]; have := dC_vb hV (-1); exact ⟨this.1, by omega, by omega⟩
    · rw [if_neg q1]
      by_cases q2 : dB x = 2 ∧ lg_cmp (lrm x 3) 0 = 0
      · rw [if_pos q2]; exact dR_vb hV (dg_b h0 hV).1 (dg_b h0 hV).2
      · rw [if_neg q2]; exact ⟨hV, (by decide : 0 ≤ (0 : Int32).toInt), (by decide : (0 : Int32).toInt ≤ 5)⟩
/-- draws one behind the other: X, the row, TURNS, how many PIECES -/
def itW {α : Type} (F : Nat → α → α) (a : α) : Nat → α
  | 0 => a
  | j + 1 => F j (itW F a j)
def xS (x : Int64) (j : Nat) : Int64 := itW (fun _ y => nxx y) x j
def wS (x : Int64) (w : Nat → Int32) (j : Nat) : Nat → Int32 := itW (fun i u => (dG (dA (xS x (i + 1)) u).1).1) w j
def tS (x : Int64) (w : Nat → Int32) (j : Nat) : Int32 := itW (fun i t => t + (dA (xS x (i + 1)) (wS x w i)).2 + (dG (dA (xS x (i + 1)) (wS x w i)).1).2.1) 0 j
def nS (x : Int64) (w : Nat → Int32) (j : Nat) : Int32 := itW (fun i t => t + (dG (dA (xS x (i + 1)) (wS x w i)).1).2.2) 0 j
theorem itW_0 {α : Type} (F : Nat → α → α) (a : α) : itW F a 0 = a := rfl
theorem itW_s {α : Type} (F : Nat → α → α) (a : α) (j : Nat) : itW F a (j + 1) = F j (itW F a j) := rfl
theorem xS_0 (x : Int64) : xS x 0 = x := itW_0 _ _
theorem xS_s (x : Int64) (j : Nat) : xS x (j + 1) = nxx (xS x j) := itW_s _ _ _
theorem wS_0 (x : Int64) (w : Nat → Int32) : wS x w 0 = w := itW_0 _ _
theorem wS_s (x : Int64) (w : Nat → Int32) (j : Nat) : wS x w (j + 1) = (dG (dA (xS x (j + 1)) (wS x w j)).1).1 := itW_s (fun i u => (dG (dA (xS x (i + 1)) u).1).1) w j
theorem tS_0 (x : Int64) (w : Nat → Int32) : tS x w 0 = 0 := itW_0 _ _
theorem tS_s (x : Int64) (w : Nat → Int32) (j : Nat) : tS x w (j + 1) = tS x w j + (dA (xS x (j + 1)) (wS x w j)).2 + (dG (dA (xS x (j + 1)) (wS x w j)).1).2.1 := itW_s (fun i t => t + (dA (xS x (i + 1)) (wS x w i)).2 + (dG (dA (xS x (i + 1)) (wS x w i)).1).2.1) 0 j
theorem nS_0 (x : Int64) (w : Nat → Int32) : nS x w 0 = 0 := itW_0 _ _
theorem nS_s (x : Int64) (w : Nat → Int32) (j : Nat) : nS x w (j + 1) = nS x w j + (dG (dA (xS x (j + 1)) (wS x w j)).1).2.2 := itW_s (fun i t => t + (dG (dA (xS x (i + 1)) (wS x w i)).1).2.2) 0 j
theorem xS_b {x : Int64} (h0 : 0 ≤ x.toInt) (h1 : x.toInt ≤ 2147483646) : ∀ j, 0 ≤ (xS x j).toInt ∧ (xS x j).toInt ≤ 2147483646
  | 0 => by rw [xS_0]; exact ⟨h0, h1⟩
  | j + 1 => by
    have ih := xS_b h0 h1 j
    rw [xS_s]; exact nxx_b ih.1 ih.2
theorem wS_b {x : Int64} {w : Nat → Int32} (h0 : 0 ≤ x.toInt) (h1 : x.toInt ≤ 2147483646) (hV : VB w) : ∀ j, VB (wS x w j)
  | 0 => by rw [wS_0]; exact hV
  | j + 1 => by
    have ih := wS_b h0 h1 hV j
    rw [wS_s]; exact (dG_vb (dA_vb (xS_b h0 h1 (j + 1)).1 ih).1).1
theorem tS_m {x : Int64} {w : Nat → Int32} (h0 : 0 ≤ x.toInt) (h1 : x.toInt ≤ 2147483646) (hV : VB w) {j : Nat} (hj : j ≤ 60) (i0 : 0 ≤ (tS x w j).toInt) (i1 : (tS x w j).toInt ≤ 256 * j) : (tS x w j + (dA (xS x (j + 1)) (wS x w j)).2).toInt = (tS x w j).toInt + (dA (xS x (j + 1)) (wS x w j)).2.toInt ∧ 0 ≤ (dA (xS x (j + 1)) (wS x w j)).2.toInt ∧ (dA (xS x (j + 1)) (wS x w j)).2.toInt ≤ 5 := by
  have ha := dA_vb (xS_b h0 h1 (j + 1)).1 (wS_b h0 h1 hV j)
  exact ⟨tI_add (by omega) (by omega), ha.2.1, ha.2.2⟩
theorem tS_b {x : Int64} {w : Nat → Int32} (h0 : 0 ≤ x.toInt) (h1 : x.toInt ≤ 2147483646) (hV : VB w) : ∀ j, j ≤ 61 → 0 ≤ (tS x w j).toInt ∧ (tS x w j).toInt ≤ 256 * j
  | 0, _ => by rw [tS_0]; decide
  | j + 1, hj => by
    have ih := tS_b h0 h1 hV j (by omega)
    obtain ⟨m1, m2, m3⟩ := tS_m h0 h1 hV (by omega) ih.1 ih.2
    have hg := (dG_vb (dA_vb (xS_b h0 h1 (j + 1)).1 (wS_b h0 h1 hV j)).1).2
    rw [tS_s, tI_add (by omega) (by omega), m1]
    omega
section Drawn
variable {N M : Mm} {w : Nat → Int32} {S : Int32}
theorem kd_draw (h : KD N M w S) (hw : VB w) (s0 : 0 ≤ S.toInt) (s1 : S.toInt ≤ 90000) {x : Int64} (x0 : 0 ≤ x.toInt) (Φ : Mm → Prop) (k : ∀ M1, KD N M1 (dA x w).1 (S + (dA x w).2) → Φ M1) : S_shiftByDraw M x Φ := by
  have kk : (∀ M1, KD N M1 w (S + 0) → Φ M1) → Φ M := fun k => k M (by rw [Int32.add_zero]; exact h)
  show ((dB x = 0 → S_shiftIfMay M 1 (fun M2 => D_shiftByDraw_16 Φ (x, dB x, M2))) ∧ (¬ (dB x = 0) → D_shiftByDraw_16 Φ (x, dB x, M)))
  unfold dA at k
  generalize dB x = b at *
  by_cases q0 : b = 0
  · subst q0
    rw [if_pos rfl] at k
    exact ht rfl (kd_shift h hw s0 s1 1 _ (fun M1 h1 => sk (by decide) (sk (by decide) (k M1 h1))))
  · rw [if_neg q0] at k
    refine sk q0 ?_
    by_cases q1 : b = 1
    · subst q1
      rw [if_pos rfl] at k
      exact ht rfl (kd_shift h hw s0 s1 (-1) _ (fun M1 h1 => sk (by decide) (k M1 h1)))
    · rw [if_neg q1] at k
      refine sk q1 ?_
      by_cases q2 : b = 2
      · by_cases q3 : lg_cmp (lrm x 3) 0 = 0
        · rw [if_pos ⟨q2, q3⟩] at k
          obtain ⟨u, ho, hR, hV, hA, hS⟩ := id h
          have e1 : M 13 1 = w 1 := hR.1.1.trans (hA 1 (by omega) (by omega))
          have e5 : M 13 5 = w 4 := hR.1.2.2.2.2.1.trans (hA 4 (by omega) (by omega))
          have a1 := hw.1.1
          have n1 : ¬ w 1 ≤ 0 := by rw [tI_le, show (0 : Int32).toInt = 0 by decide]; omega
          have n2 : ¬ Int32.toInt64 (w 1) = 0 := fun z => by
            have e : (Int32.toInt64 (w 1)).toInt = (w 1).toInt := Int32.toInt_toInt64 _
            rw [z, show (0 : Int64).toInt = 0 by decide] at e
            omega
          rw [D_shiftByDraw_26, e1, e5]
          refine ht q2 (ht q3 (sk n1 ⟨n2, ?_⟩))
          by_cases q4 : dg x w = w 4
          · refine ht q4 (kk (fun M1 h1 => k M1 ?_))
            have : dR (dg x w) w = (w, 0) := by
              unfold dR
              rw [if_pos q4, q4]
              have : upd w 4 (w 4) = w := by
                funext i
                by_cases z : i = 4
                · rw [z, pk_us]
                · rw [pk_un z]
              rw [this]
            rw [this]; exact h1
          · exact sk q4 (kd_ring h s0 s1 (dg_b x0 hw).1 (dg_b x0 hw).2 q4 _ k)
        · rw [if_neg (fun z => q3 z.2)] at k
          exact ht q2 (sk q3 (kk k))
      · rw [if_neg (fun z => q2 z.1)] at k
        exact sk q2 (kk k)
theorem v_drawn {x : Int64} (h0 : 0 ≤ x.toInt) (h1 : x.toInt ≤ 2147483646) (hV : VB w) {n : Nat} (hn : n ≤ 60) (a3 : Int32) (hK : KD N M w 0) (Φ : Int32 → Mm → Prop) (h : ∀ M1, (∀ j, ¬ (13 ≤ j ∧ j ≤ 18) → M1 j = N j) → Φ (if a3 = 0 then tS x w n else nS x w n) M1) : ∃ m, lp (D_drawn_75 Φ) m (nI n, a3, 0, x, 0, M) := by
  refine lp_ex (fun q (a : Int32 × Int32 × Int32 × Int64 × Int32 × Mm) => ∃ j M', j + q = n ∧ a = (nI n, a3, nS x w j, xS x j, nI j, M') ∧ KD N M' (wS x w j) (tS x w j)) ?_ ?_ (i := n) ⟨0, M, by omega, by rw [nS_0, xS_0]; rfl, by rw [wS_0, tS_0]; exact hK⟩
  · rintro a ⟨j, M', hj, rfl, hK'⟩ rec
    obtain rfl : j = n := by omega
    obtain ⟨u, ho, hR, hV, hA, hS⟩ := id hK'
    have e8 : M' 13 8 = tS x w j := hR.1.2.2.2.2.2.2.2.trans hS
    have hh := h M' ho
    refine ⟨fun _ => ⟨fun z => ?_, fun z => ?_⟩, fun z => absurd (by rw [tI_le]; omega) z⟩
    · rw [if_pos z] at hh; rw [e8]; exact hh
    · rw [if_neg z] at hh; exact hh
  · rintro q a ⟨j, M', hj, rfl, hK'⟩ rec hrec
    have ht := tS_b h0 h1 hV j (by omega)
    obtain ⟨m1, m2, m3⟩ := tS_m h0 h1 hV (j := j) (by omega) ht.1 ht.2
    have ex : lrm (xS x j * 16807) 2147483647 = xS x (j + 1) := by rw [xS_s]; rfl
    rw [D_drawn_75, ex]
    refine sk (nle n (by omega) (by omega)) (kd_draw hK' (wS_b h0 h1 hV j) ht.1 (by omega) (xS_b h0 h1 (j + 1)).1 _ (fun M1 k1 => ?_))
    refine kd_go k1 (by omega) (by omega) _ (fun M2 k2 => hrec _ ⟨j + 1, M2, by omega, ?_, ?_⟩)
    · rw [nI_inc, nS_s]
    · rw [wS_s, tS_s]; exact k2
theorem dd_go (hV : VB w) {Φ : Int32 → Mm → Prop} {rec : Int32 × Int32 × Int64 × Int32 × Int32 × Int32 × Mm → Prop} {x1 x2 : Int32} {x3 : Int64} {x4 x5 x6 : Int32} (k : rec (x1, x2, x3, x4 + (dG w).2.1, x5 + (dG w).2.2, x6 + 1, ms M 45 (dG w).1)) : D_R_drawn_232 Φ rec (x1, x2, x3, x4, x5, x6, ms M 45 w) := by
  obtain ⟨hr, hc, hr3, hc6, hg, er, ec, ev4, ev5⟩ := hV.now
  obtain ⟨p, n, ep, en, hpn, hn1, hn6, gn, gp⟩ := hV.at_
  have e45 : ms M 45 w 45 = w := ms_at M 45 w
  have c6 : ms M 45 w 45 (Int32.toNatClampNeg 6) = w 6 := by rw [e45]; rfl
  have c3 : ms M 45 w 45 (Int32.toNatClampNeg 3) = w 3 := by rw [e45]; rfl
  unfold dG at k
  rw [D_R_drawn_232, c6, c3]
  by_cases z : w 6 = w 3
  · rw [if_pos z] at k
    refine ht z (vr_turnAbout (M := ms M 45 w) 45 (n := n) (by rw [e45]; exact en) hn1 hn6 _ ?_)
    rw [e45, ms_ms]
    rw [en, nI_clamp (by omega)] at k
    have k : rec (x1, x2, x3, x4 + 0, x5 + 0, x6 + 1, ms M 45 (abV w n)) := k
    rw [Int32.add_zero, Int32.add_zero] at k
    exact k
  · rw [if_neg z] at k
    have hp6 : p < 6 := by
      have : ¬ (w 6).toInt = (w 3).toInt := fun q => z (tI_eq.mpr q)
      omega
    have ecr : (if w 0 < ldv w (rn w) (cg w) (w (23 + p)) then (0 : Int32) else 1) = crv w (rn w) (cg w) := by
      unfold crv; rw [if_neg z, ep, nI_clamp (by omega)]
    refine sk z ?_
    unfold S_R_gearOf
    refine vr_bears (M := ms M 45 w) (k := 45) hV hr hc hr3 hc6 er ec ep hp6 _ ?_
    rw [e45, ecr]
    refine ⟨fun q => ?_, fun q => ?_⟩
    · rw [if_pos q] at k
      have k : rec (x1, x2, x3, x4 + 0, x5 + 0, x6 + 1, ms M 45 w) := k
      rw [Int32.add_zero, Int32.add_zero] at k
      exact k
    · rw [if_neg q] at k
      refine vr_turnsOf (M := ms M 45 w) (k := 45) hV hr hc hr3 hc6 er ec _ ?_
      intro M13 e13
      rw [e13, e45, mu_ms]
      exact k
theorem dd_cog (hV : VB w) {Φ : Int32 → Mm → Prop} {rec : Int32 × Int32 × Int64 × Int32 × Int32 × Int32 × Mm → Prop} {x1 x2 : Int32} {x3 : Int64} {x4 x5 x6 b d : Int32} (hb : ¬ 2 ≤ b) (hb2 : ¬ b = 2) (k : D_R_drawn_232 Φ rec (x1, x2, x3, x4 + (dC d w).2, x5, x6, ms M 45 (dC d w).1)) : D_R_drawn_102 Φ rec (x1, x2, x3, x4, x5, x6, b, d, w 5, ms M 45 w) := by
  obtain ⟨hr, hc, hr3, hc6, hg, er, ec, ev4, ev5⟩ := hV.now
  have e45 : ms M 45 w 45 = w := ms_at M 45 w
  have c2 : ms M 45 w 45 (Int32.toNatClampNeg 2) = w 2 := by rw [e45]; rfl
  have c5 : ms M 45 w 45 (Int32.toNatClampNeg 5) = nI (cg w) := by rw [e45]; exact ev5
  have c6 : ms M 45 w 45 (Int32.toNatClampNeg 6) = w 6 := by rw [e45]; rfl
  have a2 := hV.1.2.1
  have kk : D_R_drawn_232 Φ rec (x1, x2, x3, x4 + 0, x5, x6, ms M 45 w) → D_R_drawn_173 Φ rec (x1, x2, x3, x4, x5, x6, b, ms M 45 w) := fun k => sk hb2 (by rw [Int32.add_zero] at k; exact k)
  unfold dC at k
  rw [D_R_drawn_102, c2, c5, c6]
  refine sk hb (v_in _ _ _ _ _ ?_)
  by_cases q : wi (w 5 + d) 0 (w 2 - 1) = 0
  · have : ml w d = 0 := by unfold ml; rw [if_pos q]
    rw [if_pos this] at k
    exact ht q (kk k)
  · refine sk q (vr_canLeave (M := ms M 45 w) hc6 _ _ ?_)
    have eml : mlv (ms M 45 w 45) (cg w) (w 6) = ml w d := by unfold ml; rw [if_neg q, e45]
    rw [eml]
    by_cases q2 : ml w d = 0
    · rw [if_pos q2] at k
      exact ht q2 (kk k)
    · rw [if_neg q2] at k
      refine sk q2 (fun M15 e15 => ?_)
      obtain ⟨c', ec', hc'⟩ := wi_nI (by omega) q
      have hc6' : c' < 6 := by omega
      have k15 : M15 = ms M 45 (upd w 5 (w 5 + d)) := by rw [e15, mu_ms]; rfl
      have ecl : (w 5 + d).toNatClampNeg = c' := by rw [ec', nI_clamp (by omega)]
      have et : tov (M15 45) c' = tov w c' := by
        rw [k15, ms_at]; unfold tov; rw [pk_un (by omega)]
      have goal : S_R_shiftOnto 45 M15 (nI c') (fun r16 => D_R_drawn_173 Φ rec (x1, x2, x3, x4 + r16, x5, x6, b, M15)) := by
        refine vr_shiftOnto hc6' _ (sk hb2 ?_)
        rw [et, k15]
        rw [ecl] at k
        exact k
      rw [ec']
      exact goal
theorem dd_step (hV : VB w) {Φ : Int32 → Mm → Prop} {rec : Int32 × Int32 × Int64 × Int32 × Int32 × Int32 × Mm → Prop} {x1 x2 : Int32} {x : Int64} (x0 : 0 ≤ x.toInt) {x4 x5 x6 : Int32} (k : rec (x1, x2, x, x4 + (dA x w).2 + (dG (dA x w).1).2.1, x5 + (dG (dA x w).1).2.2, x6 + 1, ms M 45 (dG (dA x w).1).1)) : (dB x = 0 → D_R_drawn_102 Φ rec (x1, x2, x, x4, x5, x6, dB x, 1, w 5, ms M 45 w)) ∧ (¬ (dB x = 0) → D_R_drawn_102 Φ rec (x1, x2, x, x4, x5, x6, dB x, -1, w 5, ms M 45 w)) := by
  have hva := dA_vb x0 hV
  have bb := dB_b x0
  have k2 := dd_go (M := M) (Φ := Φ) hva.1 k
  have e45 : ms M 45 w 45 = w := ms_at M 45 w
  clear k hva
  unfold dA at k2
  generalize dB x = b at *
  by_cases q0 : b = 0
  · subst q0
    rw [if_pos rfl] at k2
    exact ht rfl (dd_cog hV (by decide) (by decide) k2)
  · rw [if_neg q0] at k2
    refine sk q0 ?_
    by_cases q1 : b = 1
    · subst q1
      rw [if_pos rfl] at k2
      exact dd_cog hV (by decide) (by decide) k2
    · rw [if_neg q1] at k2
      have q2b : 2 ≤ b := by
        have e0 : (0 : Int32).toInt = 0 := by decide
        have e1 : (1 : Int32).toInt = 1 := by decide
        have e2 : (2 : Int32).toInt = 2 := by decide
        rw [tI_eq, e0] at q0; rw [tI_eq, e1] at q1
        rw [tI_le, e2]; omega
      refine ht q2b ?_
      have kk : D_R_drawn_232 Φ rec (x1, x2, x, x4 + 0, x5, x6, ms M 45 w) → D_R_drawn_232 Φ rec (x1, x2, x, x4, x5, x6, ms M 45 w) := fun k => by rw [Int32.add_zero] at k; exact k
      by_cases q2 : b = 2
      · by_cases q3 : lg_cmp (lrm x 3) 0 = 0
        · rw [if_pos ⟨q2, q3⟩] at k2
          have a1 := hV.1.1
          have n2 : ¬ Int32.toInt64 (w 1) = 0 := fun z => by
            have e : (Int32.toInt64 (w 1)).toInt = (w 1).toInt := Int32.toInt_toInt64 _
            rw [z, show (0 : Int64).toInt = 0 by decide] at e
            omega
          have c1 : ms M 45 w 45 (Int32.toNatClampNeg 1) = w 1 := by rw [e45]; rfl
          have c4 : ms M 45 w 45 (Int32.toNatClampNeg 4) = w 4 := by rw [e45]; rfl
          rw [D_R_drawn_173, c1, c4]
          refine ht q2 (ht q3 ⟨n2, ?_⟩)
          by_cases q4 : dg x w = w 4
          · refine ht q4 (fun M9 e9 => ?_)
            rw [e9, mu_ms]
            unfold dR at k2
            rw [if_pos q4] at k2
            exact k2
          · refine sk q4 (fun M9 e9 => ?_)
            rw [e9, mu_ms]
            unfold dR at k2
            rw [if_neg q4] at k2
            exact k2
        · rw [if_neg (fun z => q3 z.2)] at k2
          exact ht q2 (sk q3 (kk k2))
      · rw [if_neg (fun z => q2 z.1)] at k2
        exact sk q2 (kk k2)
theorem vr_drawn {x : Int64} (h0 : 0 ≤ x.toInt) (h1 : x.toInt ≤ 2147483646) (hV : VB w) {n : Nat} (hn : n ≤ 60) (a3 : Int32) (Φ : Int32 → Mm → Prop) (h : ∀ F, Φ (if a3 = 0 then tS x w n else nS x w n) (ms M 45 F)) : ∃ m, lp (D_R_drawn_59 Φ) m (nI n, a3, x, 0, 0, 0, ms M 45 w) := by
  refine lp_ex (fun q (a : Int32 × Int32 × Int64 × Int32 × Int32 × Int32 × Mm) => ∃ j, j + q = n ∧ a = (nI n, a3, xS x j, tS x w j, nS x w j, nI j, ms M 45 (wS x w j))) ?_ ?_ (i := n) ⟨0, by omega, by rw [xS_0, tS_0, nS_0, wS_0]; rfl⟩
  · rintro a ⟨j, hj, rfl⟩ rec
    obtain rfl : j = n := by omega
    have hh := h (wS x w j)
    refine ⟨fun _ => ⟨fun z => ?_, fun z => ?_⟩, fun z => absurd (by rw [tI_le]; omega) z⟩
    · rw [if_pos z] at hh; exact hh
    · rw [if_neg z] at hh; exact hh
  · rintro q a ⟨j, hj, rfl⟩ rec hrec
    have c5 : ms M 45 (wS x w j) 45 (Int32.toNatClampNeg 5) = wS x w j 5 := by rw [ms_at]; rfl
    have ex : lrm (xS x j * 16807) 2147483647 = xS x (j + 1) := by rw [xS_s]; rfl
    rw [D_R_drawn_59, c5, ex]
    refine sk (nle n (by omega) (by omega)) (dd_step (wS_b h0 h1 hV j) (xS_b h0 h1 (j + 1)).1 (hrec _ ⟨j + 1, by omega, ?_⟩))
    rw [nI_inc, nS_s, tS_s, wS_s]
end Drawn
