/-! RIDES, SHIFTS: ride, shift, front -/
theorem mu_at (M : Mm) (k i : Nat) (x : Int32) : mu M k i x k = upd (M k) i x := by unfold mu; exact ms_at M k _
theorem mu_ne (M : Mm) {k j : Nat} (i : Nat) (x : Int32) (h : ¬ j = k) : mu M k i x j = M j := by unfold mu ms; rw [if_neg h]
def cap (x : Int32) : Int32 := if x ≤ 99999 then x else 99999
theorem cap_bnd {x n : Int32} (h0 : 0 ≤ x.toInt) (h1 : x.toInt ≤ 99999) (n0 : 0 ≤ n.toInt) (n1 : n.toInt ≤ 1000000) : 0 ≤ (cap (x + n)).toInt ∧ (cap (x + n)).toInt ≤ 99999 := by
  have e : (99999 : Int32).toInt = 99999 := by decide
  have ea : (x + n).toInt = x.toInt + n.toInt := tI_add (by omega) (by omega)
  unfold cap
  by_cases h : x + n ≤ 99999
  · rw [if_pos h]; rw [tI_le, e] at h; omega
  · rw [if_neg h, e]; omega
theorem v_cap (M : Mm) (x : Int32) : Val (S_Math_min M 99999 x) (cap x) := by
  intro Φ h
  have e : (99999 : Int32).toInt = 99999 := by decide
  unfold cap at h
  refine ⟨fun z => ?_, fun z => ?_⟩ <;> rw [tI_lt, e] at z
  · rw [if_pos (by rw [tI_le, e]; omega)] at h; exact h
  · by_cases h2 : x ≤ 99999
    · rw [if_pos h2] at h
      rw [tI_le, e] at h2
      rw [show (99999 : Int32) = x by rw [tI_eq, e]; omega]; exact h
    · rw [if_neg h2] at h; exact h
theorem vr_atMost (M : Mm) (x : Int32) : Val (S_R_atMost M x) (cap x) := by
  intro Φ h
  unfold cap at h
  refine ⟨fun z => ?_, fun z => ?_⟩
  · rw [if_pos z] at h; exact h
  · rw [if_neg z] at h; exact h
theorem tn_bnd {v : Nat → Int32} (hV : VB v) {r c : Nat} (hr : (r : Int) < (v 1).toInt) (hc : (c : Int) < (v 2).toInt) : 1 ≤ (tnv v r c).toInt ∧ (tnv v r c).toInt ≤ 251 := by
  have h1 := hV.2.1 r hr
  have h2 := (hV.2.2.1 c hc).2.1
  have e100 : (100 : Int32).toInt = 100 := by decide
  have e1 : (1 : Int32).toInt = 1 := by decide
  have e4 : (4 : Int32).toInt = 4 := by decide
  have m : ((100 : Int32) * v (17 + c)).toInt = 100 * (v (17 + c)).toInt := by rw [tI_mul (by rw [e100]; omega) (by rw [e100]; omega), e100]
  have d := (tI_dm (a := 100 * v (17 + c)) (d := v (8 + r)) (by omega) (by omega)).1
  rw [m] at d
  have d0 : 0 ≤ 100 * (v (17 + c)).toInt / (v (8 + r)).toInt := Int.ediv_nonneg (by omega) (by omega)
  have d1 : 100 * (v (17 + c)).toInt / (v (8 + r)).toInt ≤ 200 := Int.ediv_le_of_le_mul (by omega) (by omega)
  have w : (100 * v (17 + c) / v (8 + r) + 1).toInt = 100 * (v (17 + c)).toInt / (v (8 + r)).toInt + 1 := by
    rw [tI_add (by rw [d, e1]; omega) (by rw [d, e1]; omega), d, e1]
  have q := (tI_dm (a := 100 * v (17 + c) / v (8 + r) + 1) (d := 4) (by omega) (by decide)).1
  rw [w, e4] at q
  unfold tnv
  split
  · rw [tI_add (by rw [w, q]; omega) (by rw [w, q]; omega), w, q]; omega
  · rw [w]; omega
theorem tov_bnd (v : Nat → Int32) (c : Nat) : 1 ≤ (tov v c).toInt ∧ (tov v c).toInt ≤ 3 := by unfold tov; split <;> decide
/-- a BIKE behind a RIDE or a SHIFT -/
theorem moved_bike {f f' rg kd th on on' sl v v' : Nat → Int32} (hR : RelB f rg kd th on sl v) (hV : VB v) (hf : ∀ i, 1 ≤ i → i ≤ 4 → f' i = f i) (f5 : f' 5 = v' 4) (f6 : f' 6 = v' 5) (f7 : f' 7 = v' 6) (f8 : f' 8 = v' 7) (hv : ∀ i, i < 4 ∨ (8 ≤ i ∧ i < 29) → v' i = v i) (hon : ∀ i : Nat, (i : Int) < (v 2).toInt → on' i = v' (29 + i) ∧ 0 ≤ (v' (29 + i)).toInt ∧ (v' (29 + i)).toInt ≤ 99999) (b4 : 0 ≤ (v' 4).toInt ∧ (v' 4).toInt < (v 1).toInt) (b5 : 0 ≤ (v' 5).toInt ∧ (v' 5).toInt < (v 2).toInt) (b6 : 0 ≤ (v' 6).toInt ∧ (v' 6).toInt ≤ (v 3).toInt) (b7 : 0 ≤ (v' 7).toInt ∧ (v' 7).toInt ≤ 99999) : RelB f' rg kd th on' sl v' ∧ VB v' ∧ Stay v v' := by
  obtain ⟨⟨r1, r2, r3, r4, r5, r6, r7, r8⟩, hr, hc, hs⟩ := hR
  have hC := hV.cb
  obtain ⟨⟨a1, a2, a3, a4, a5, a6, a7, a8⟩, vr, vc, vs⟩ := hV
  have q0 := hv 0 (by omega); have q1 := hv 1 (by omega); have q2 := hv 2 (by omega); have q3 := hv 3 (by omega)
  obtain ⟨c1, c2, c3⟩ := hC
  unfold RelB VB
  rw [q0, q1, q2, q3]
  refine ⟨⟨⟨(hf 1 (by omega) (by omega)).trans r1, (hf 2 (by omega) (by omega)).trans r2, (hf 3 (by omega) (by omega)).trans r3, (hf 4 (by omega) (by omega)).trans r4, f5, f6, f7, f8⟩, fun i hi => ?_, fun i hi => ?_, fun i hi => ?_⟩, ⟨⟨a1, a2, a3, a4, b4, b5, b6, b7⟩, fun i hi => ?_, fun i hi => ?_, fun i hi => ?_⟩, fun j hj => (hv j (by omega)).symm⟩
  · rw [hv _ (by omega)]; exact hr i hi
  · rw [hv (11 + i) (by omega), hv (17 + i) (by omega)]; exact ⟨(hc i hi).1, (hc i hi).2.1, (hon i hi).1⟩
  · rw [hv _ (by omega)]; exact hs i hi
  · rw [hv _ (by omega)]; exact vr i hi
  · rw [hv (11 + i) (by omega), hv (17 + i) (by omega)]; exact ⟨(vc i hi).1, (vc i hi).2.1, (hon i hi).2⟩
  · rw [hv _ (by omega)]; exact vs i hi
section Rides
variable {M : Mm}
theorem v_turn (k : Nat) (n : Int32) : RunV (S_Bike_turn k M n) (mu M k 8 (cap (M k 8 + n))) := fun Φ h => v_cap M _ _ (fun M2 e => by rw [e]; exact h)
theorem v_turnOnCog (k : Nat) (n : Int32) {c : Nat} (hc : c < 6) (ec : M k 6 = nI c) : RunV (S_Bike_turnOnCog k M n) (mu M (k + 4) c (cap (M (k + 4) c + n))) := by
  intro Φ h
  unfold S_Bike_turnOnCog
  rw [ec, nI_clamp (by omega)]
  exact ⟨vp_in_nI hc (by decide), v_cap M _ _ ⟨vp_in_nI hc (by decide), fun M2 e => by rw [e]; exact h⟩⟩
def RideM (k : Nat) (M : Mm) (t : Int32) (c : Nat) : Mm := mu (mu (mu M k 8 (cap (M k 8 + t))) (k + 4) c (cap (M (k + 4) c + t))) k 7 (M k 7 + 1)
theorem v_rideOn {k : Nat} {v : Nat → Int32} (hR : RelB (M k) (M (k + 1)) (M (k + 2)) (M (k + 3)) (M (k + 4)) (M (k + 5)) v) (hV : VB v) {r c : Nat} (hr : (r : Int) < (v 1).toInt) (hc : (c : Int) < (v 2).toInt) (hr3 : r < 3) (hc6 : c < 6) (hg : ¬ ig v (6 * v 4 + v 5) = 0) (er : (6 * v 4 + v 5) / 6 = nI r) (ec : irm (6 * v 4 + v 5) 6 = nI c) (e5 : v 5 = nI c) : Run (S_Bike_rideOn k M) (tnv v r c) (RideM k M (tnv v r c) c) := by
  intro Φ h
  obtain ⟨⟨r1, r2, r3, r4, r5, r6, r7, r8⟩, -⟩ := id hR
  unfold S_Bike_rideOn S_Bike_gear
  have ea : M k 5 * 6 + M k 6 = 6 * v 4 + v 5 := by rw [r5, r6, Int32.mul_comm]
  rw [ea]
  refine v_turnsOf hR hV hg hr hc hr3 hc6 er ec _ (v_turn k _ _ ?_)
  refine v_turnOnCog k _ hc6 (by rw [mu_at, pk_un (by decide), r6, e5]) _ ?_
  intro M5 q5
  rw [q5, mu_ne _ _ _ (by omega), mu_ne _ _ _ (by omega), mu_at, pk_un (by decide)]
  exact h
/-- may one RIDE -/
def crv (v : Nat → Int32) (r c : Nat) : Int32 := if v 6 = v 3 then 0 else if v 0 < ldv v r c (v (23 + (v 6).toNatClampNeg)) then 0 else 1
theorem v_canRide {k : Nat} {v : Nat → Int32} (hR : RelB (M k) (M (k + 1)) (M (k + 2)) (M (k + 3)) (M (k + 4)) (M (k + 5)) v) (hV : VB v) {r c : Nat} (hr : (r : Int) < (v 1).toInt) (hc : (c : Int) < (v 2).toInt) (hr3 : r < 3) (hc6 : c < 6) (hg : ¬ ig v (6 * v 4 + v 5) = 0) (er : (6 * v 4 + v 5) / 6 = nI r) (ec : irm (6 * v 4 + v 5) 6 = nI c) : Val (S_Bike_canRide k M) (crv v r c) := by
  intro Φ h
  obtain ⟨⟨r1, r2, r3, r4, r5, r6, r7, r8⟩, -, -, hs⟩ := id hR
  obtain ⟨⟨a1, a2, a3, a4, a5, a6, a7, a8⟩, -⟩ := id hV
  have e0 : (0 : Int32).toInt = 0 := by decide
  unfold S_Bike_canRide S_Bike_gear
  have ea : M k 5 * 6 + M k 6 = 6 * v 4 + v 5 := by rw [r5, r6, Int32.mul_comm]
  rw [ea]
  refine v_hasPiece k M _ _ ⟨fun z => ?_, fun z => ?_⟩
  · have z := wi_0 z
    rw [r3, r7, sub1 (by omega), e0] at z
    have : v 6 = v 3 := by rw [tI_eq]; omega
    unfold crv at h; rw [if_pos this] at h; exact h
  · have z := wi_1 z
    rw [r3, r7, sub1 (by omega), e0] at z
    have hne : ¬ v 6 = v 3 := by rw [tI_eq]; omega
    unfold crv at h; rw [if_neg hne] at h
    obtain ⟨j, ej, hj⟩ := ix_nI z.1
    rw [r7]
    rw [ej, nI_clamp (by omega)] at h ⊢
    rw [hs j (by omega)]
    refine ⟨vp_in_nI (by omega) (by decide), v_bears hR hV hg hr hc hr3 hc6 er ec _ ⟨fun q => ?_, fun q => ?_⟩⟩
    · rw [q] at h; exact h
    · by_cases h2 : v 0 < ldv v r c (v (23 + j))
      · rw [if_pos h2] at q; exact absurd rfl q
      · rw [if_neg h2] at h; exact h
theorem vr_turnOn (n : Int32) {c : Nat} (hc : c < 6) : RunV (S_R_turnOn 44 M n (nI c)) (mu (mu M 44 7 (cap (M 44 7 + n))) 44 (29 + c) (cap (M 44 (29 + c) + n))) := by
  intro Φ h
  have e29 : (29 : Int32) + nI c = nI (29 + c) := nI8 29 rfl
  have e0 : (0 : Int32).toInt = 0 := by decide
  have g := nI_toInt (n := c) (by omega)
  refine vr_atMost M _ _ (fun M2 e2 => ⟨fun z => ?_, fun _ => ?_⟩)
  · rw [tI_lt, g, e0] at z; omega
  · rw [e29, nI_clamp (by omega)]
    refine ⟨vp_in_nI (by omega) (by decide), vr_atMost M2 _ _ ⟨vp_in_nI (by omega) (by decide), fun M5 e5 => ?_⟩⟩
    have : M2 44 (29 + c) = M 44 (29 + c) := by
      rw [e2]
      show upd (M 44) 7 _ (29 + c) = _
      exact pk_un (by omega)
    rw [e5, this, e2]
    exact h
theorem vr_turnOnNo (n : Int32) : RunV (S_R_turnOn 44 M n (-1)) (mu M 44 7 (cap (M 44 7 + n))) := by
  intro Φ h
  exact vr_atMost M _ _ (fun M2 e2 => ⟨fun _ => by rw [e2]; exact h, fun z => absurd (by decide) z⟩)
theorem op_ride (hI : Inv M) : Op_ride Inv M := by
  have eT := hI.there
  by_cases h0 : M 39 5 = 0
  · refine op_run (r := -1000002) (M1 := M) (M2 := M) (fun Φ h => ?_) ⟨rfl, rfl⟩ (fun Φ h => ?_) hI ⟨rfl, rfl⟩
    · exact ⟨fun _ => h, fun z => absurd (eT.trans h0) z⟩
    · exact ⟨fun _ => h, fun z => absurd h0 z⟩
  obtain ⟨hV, hT1⟩ := hI.vb h0
  have hR := hI.bike.1
  obtain ⟨eac, s, p, hs, hp, es, ep, -, hrec⟩ := hI.acts
  obtain ⟨hg, r, c, hr, hc, hr3, hc6, er, ec, ev4, ev5⟩ := gear_now hV (a := 6 * M 44 4 + M 44 5) rfl
  obtain ⟨⟨r1, r2, r3, r4, r5, r6, r7, r8⟩, -, hcc, hsl⟩ := id hR
  obtain ⟨⟨a1, a2, a3, a4, a5, a6, a7, a8⟩, -, vc, -⟩ := id hV
  obtain ⟨j, ej, hj⟩ := ix_nI a7.1
  have cls : ∀ Φ : Int32 → Mm → Prop, ((crv (M 44) r c = 0 → Φ (-1000002) M) ∧ (¬ crv (M 44) r c = 0 → S_Acts_keep M (fun M4 => S_Bike_rideOn 7 M4 (fun r5 M5 => Φ r5 M5)))) → S_ride M Φ := fun Φ h => ⟨fun z => absurd (eT.symm.trans z) h0, fun _ => v_canRide hR hV hr hc hr3 hc6 hg er ec _ h⟩
  by_cases hcr : crv (M 44) r c = 0
  · refine op_run (r := -1000002) (M1 := M) (M2 := M) (fun Φ h => cls Φ ⟨fun _ => h, fun z => absurd hcr z⟩) ⟨rfl, rfl⟩ (fun Φ h => ?_) hI ⟨rfl, rfl⟩
    refine ⟨fun z => absurd z h0, fun _ => ⟨fun _ => h, fun z => ?_⟩⟩
    have z : ¬ M 44 6 = M 44 3 := z
    have hj6 : j < 6 := by
      have : ¬ (M 44 6).toInt = (M 44 3).toInt := fun q => z (tI_eq.mpr q)
      omega
    unfold crv at hcr
    rw [if_neg z, ej, nI_clamp (by omega)] at hcr
    unfold S_R_gearOf
    refine vr_bears hV hr hc hr3 hc6 er ec ej hj6 _ ?_
    exact ⟨fun _ => h, fun q => absurd hcr q⟩
  have hne : ¬ M 44 6 = M 44 3 := fun z => hcr (by unfold crv; rw [if_pos z])
  have hlt : (M 44 6).toInt < (M 44 3).toInt := by
    have : ¬ (M 44 6).toInt = (M 44 3).toInt := fun q => hne (tI_eq.mpr q)
    omega
  have hj6 : j < 6 := by omega
  have hcr2 := hcr
  unfold crv at hcr2
  rw [if_neg hne, ej, nI_clamp (by omega)] at hcr2
  generalize ht : tnv (M 44) r c = t
  have htb := tn_bnd hV hr hc
  rw [ht] at htb
  refine op_run (r := t) (M1 := RideM 7 (KM M p s) t c) (M2 := mu (mu (mu (RM (RideM 7 (KM M p s) t c) s) 44 7 (cap (M 44 7 + t))) 44 (29 + c) (cap (M 44 (29 + c) + t))) 44 6 (M 44 6 + 1)) (fun Φ h => cls Φ ⟨fun z => absurd z hcr, fun _ => ?_⟩) ⟨rfl, rfl⟩ (fun Φ h => ?_) ?_ ⟨rfl, rfl⟩
  · refine v_keep hp hs ep (eac.trans es) _ ?_
    rw [← ht] at h
    exact v_rideOn (M := KM M p s) (k := 7) (v := M 44) hR hV hr hc hr3 hc6 hg er ec ev5 _ h
  · refine ⟨fun z => absurd z h0, fun _ => ⟨fun z => absurd z hne, fun _ => ?_⟩⟩
    unfold S_R_gearOf
    refine vr_bears (M := RideM 7 (KM M p s) t c) (k := 44) hV hr hc hr3 hc6 er ec ej hj6 _ ?_
    refine ⟨fun q => absurd q hcr2, fun _ => ?_⟩
    refine vr_know (M := RideM 7 (KM M p s) t c) hs es _ ?_
    refine vr_turnsOf (M := RM (RideM 7 (KM M p s) t c) s) (k := 44) hV hr hc hr3 hc6 er ec _ ?_
    have et : tnv (RM (RideM 7 (KM M p s) t c) s 44) r c = t := ht
    rw [et]
    have e5' : RM (RideM 7 (KM M p s) t c) s 44 (Int32.toNatClampNeg 5) = nI c := ev5
    rw [e5']
    refine vr_turnOn (M := RM (RideM 7 (KM M p s) t c) s) t hc6 _ ?_
    intro M10 e10
    rw [e10]
    have e6 : (mu (mu (RM (RideM 7 (KM M p s) t c) s) 44 7 (cap (M 44 7 + t))) 44 (29 + c) (cap (M 44 (29 + c) + t))) 44 6 = M 44 6 := by
      show upd (upd (M 44) 7 (cap (M 44 7 + t))) (29 + c) (cap (M 44 (29 + c) + t)) 6 = M 44 6
      rw [pk_un (by omega), pk_un (by omega)]
    have h' : Φ t (mu (mu (mu (RM (RideM 7 (KM M p s) t c) s) 44 7 (cap (M 44 7 + t))) 44 (29 + c) (cap (M 44 (29 + c) + t))) 44 6 (M 44 6 + 1)) := h
    rw [← e6] at h'
    exact h'
  · have hb := hcc c hc
    have hbv := (vc c hc).2.2
    have ec7 := cap_bnd a8.1 a8.2 (n := t) (by omega) (by omega)
    have ec29 := cap_bnd hbv.1 hbv.2 (n := t) (by omega) (by omega)
    have e1 : (1 : Int32).toInt = 1 := by decide
    have e6 : (M 44 6 + 1).toInt = (M 44 6).toInt + 1 := by rw [tI_add (by rw [e1]; omega) (by rw [e1]; omega), e1]
    have hm := moved_bike (f' := upd (upd (M 7) 8 (cap (M 7 8 + t))) 7 (M 7 7 + 1)) (on' := upd (M 11) c (cap (M 11 c + t))) (v' := upd (upd (upd (M 44) 7 (cap (M 44 7 + t))) (29 + c) (cap (M 44 (29 + c) + t))) 6 (M 44 6 + 1)) hR hV ?_ ?_ ?_ ?_ ?_ ?_ ?_ ?_ ?_ ?_ ?_
    · refine ⟨hI.1, hI.2.1, hI.2.2.1, ⟨hm.1, eT, Or.inl ⟨hT1, hm.2.1⟩⟩, act_acts hI.acts hR hV hm.2.2 hT1 ep es hp hs, hI.2.2.2.2.2⟩
    · intro i h1 h4
      rw [pk_un (by omega), pk_un (by omega)]
    · rw [pk_un (by decide), pk_un (by decide), pk_un (by decide), pk_un (by omega), pk_un (by decide)]; exact r5
    · rw [pk_un (by decide), pk_un (by decide), pk_un (by decide), pk_un (by omega), pk_un (by decide)]; exact r6
    · rw [pk_us, pk_us, r7]
    · rw [pk_un (by decide), pk_us, pk_un (by decide), pk_un (by omega), pk_us, r8]
    · intro i hi
      rw [pk_un (by omega), pk_un (by omega), pk_un (by omega)]
    · intro i hi
      rw [pk_un (j := 29 + i) (by omega)]
      by_cases h : i = c
      · subst h
        rw [pk_us, pk_us, hb.2.2]; exact ⟨rfl, ec29⟩
      · rw [pk_un h, pk_un (by omega), pk_un (by omega)]
        exact ⟨(hcc i hi).2.2, (vc i hi).2.2⟩
    · rw [pk_un (by decide), pk_un (by omega), pk_un (by decide)]; exact a5
    · rw [pk_un (by decide), pk_un (by omega), pk_un (by decide)]; exact a6
    · rw [pk_us]; omega
    · rw [pk_un (by decide), pk_un (by omega), pk_us]; exact ec7
theorem v_canShift {k : Nat} {v : Nat → Int32} (hR : RelB (M k) (M (k + 1)) (M (k + 2)) (M (k + 3)) (M (k + 4)) (M (k + 5)) v) {c : Nat} (hc : (c : Int) < (v 2).toInt) (hc6 : c < 6) (e5 : v 5 = nI c) (x : Int32) : Val (S_Bike_canShift k M x) (if wi (v 5 + x) 0 (v 2 - 1) = 0 then 0 else mlv v c (v 6)) := by
  intro Φ h
  obtain ⟨⟨r1, r2, r3, r4, r5, r6, r7, r8⟩, -, hcc, hs⟩ := id hR
  unfold S_Bike_canShift
  rw [r6, r7]
  refine v_hasCog k M _ _ ⟨fun z => ?_, fun z => ?_⟩
  · rw [r2] at z; rw [if_pos z] at h; exact h
  · rw [r2] at z; rw [if_neg z] at h
    rw [e5]
    refine v_mayLeave (v := v) (hcc c hc).1 hc6 _ _ ⟨fun q => ?_, fun q => ?_⟩
    · rw [q] at h; exact h
    · have : mlv v c (v 6) = 1 := by
        unfold mlv at q ⊢
        split
        · rename_i hh; rw [if_pos hh] at q; exact absurd rfl q
        · rfl
      rw [this] at h; exact h
def ShM (k : Nat) (M : Mm) (x t : Int32) (c : Nat) : Mm := mu (mu (mu M k 6 (M k 6 + x)) k 8 (cap (M k 8 + t))) (k + 4) c (cap (M (k + 4) c + t))
theorem v_shiftCog {k : Nat} {v : Nat → Int32} (hR : RelB (M k) (M (k + 1)) (M (k + 2)) (M (k + 3)) (M (k + 4)) (M (k + 5)) v) {c : Nat} (hc : (c : Int) < (v 2).toInt) (hc6 : c < 6) {x : Int32} (e5 : v 5 + x = nI c) : RunV (S_Bike_shiftCog k M x) (ShM k M x (tov v c) c) := by
  intro Φ h
  obtain ⟨⟨r1, r2, r3, r4, r5, r6, r7, r8⟩, -, hcc, hs⟩ := id hR
  unfold S_Bike_shiftCog
  intro M1 q1
  have e1 : M1 k 6 = nI c := by rw [q1, mu_at, pk_us, r6, e5]
  have e2 : M1 (k + 2) c = v (11 + c) := by rw [q1, mu_ne _ _ _ (by omega)]; exact (hcc c hc).1
  have e8 : M1 k 8 = M k 8 := by rw [q1, mu_at, pk_un (by decide)]
  have e4 : M1 (k + 4) c = M (k + 4) c := by rw [q1, mu_ne _ _ _ (by omega)]
  rw [e1]
  refine v_turnsOnto (v := v) e2 hc6 _ (v_turn k _ _ ?_)
  have e1' : mu M1 k 8 (cap (M1 k 8 + tov v c)) k 6 = nI c := by rw [mu_at, pk_un (by decide), e1]
  rw [e1']
  refine v_turnsOnto (v := v) (by rw [mu_ne _ _ _ (by omega)]; exact e2) hc6 _ (v_turnOnCog k _ hc6 e1' _ ?_)
  rw [mu_ne _ _ _ (by omega), e4, e8, q1]
  exact h
theorem op_shift (hI : Inv M) : Op_shift Inv M := by
  intro x
  have eT := hI.there
  by_cases h0 : M 39 5 = 0
  · refine op_run (r := -1000002) (M1 := M) (M2 := M) (fun Φ h => ?_) ⟨rfl, rfl⟩ (fun Φ h => ?_) hI ⟨rfl, rfl⟩
    · exact ⟨fun _ => h, fun z => absurd (eT.trans h0) z⟩
    · exact ⟨fun _ => h, fun z => absurd h0 z⟩
  by_cases hx : ¬ (x = 1 ∨ x = -1)
  · refine op_run (r := -1000001) (M1 := M) (M2 := M) (fun Φ h => ?_) ⟨rfl, rfl⟩ (fun Φ h => ?_) hI ⟨rfl, rfl⟩
    · exact ⟨fun z => absurd (eT.symm.trans z) h0, fun _ => ⟨fun z => absurd (Or.inl z) hx, fun _ => ⟨fun z => absurd (Or.inr z) hx, fun _ => h⟩⟩⟩
    · exact ⟨fun z => absurd z h0, fun _ => ⟨fun z => absurd (Or.inl z) hx, fun _ => ⟨fun z => absurd (Or.inr z) hx, fun _ => h⟩⟩⟩
  have hx := Classical.not_not.mp hx
  have cls : ∀ Φ : Int32 → Mm → Prop, D_shift_26 Φ (x, M) → S_shift M x Φ := fun Φ h => ⟨fun z => absurd (eT.symm.trans z) h0, fun _ => ⟨fun _ => h, fun z => ⟨fun _ => h, fun z2 => absurd hx (fun q => q.elim z z2)⟩⟩⟩
  have rfc : ∀ (M : Mm) (Φ : Int32 → Mm → Prop), ¬ M 39 5 = 0 → D_R_shift_23 Φ (x, M) → S_R_shift M x Φ := fun M Φ h0 h => ⟨fun z => absurd z h0, fun _ => ⟨fun _ => h, fun z => ⟨fun _ => h, fun z2 => absurd hx (fun q => q.elim z z2)⟩⟩⟩
  obtain ⟨hV, hT1⟩ := hI.vb h0
  have hR := hI.bike.1
  obtain ⟨eac, s, p, hs, hp, es, ep, -, hrec⟩ := hI.acts
  obtain ⟨hg, r, c, hr, hc, hr3, hc6, er, ec, ev4, ev5⟩ := gear_now hV (a := 6 * M 44 4 + M 44 5) rfl
  obtain ⟨⟨r1, r2, r3, r4, r5, r6, r7, r8⟩, -, hcc, hsl⟩ := id hR
  obtain ⟨⟨a1, a2, a3, a4, a5, a6, a7, a8⟩, -, vc, -⟩ := id hV
  by_cases hw : wi (M 44 5 + x) 0 (M 44 2 - 1) = 0
  · refine op_run (r := -1000002) (M1 := M) (M2 := M) (fun Φ h => cls Φ ?_) ⟨rfl, rfl⟩ (fun Φ h => rfc M Φ h0 ?_) hI ⟨rfl, rfl⟩
    · rw [D_shift_26]
      refine v_canShift (k := 7) hR hc hc6 ev5 x _ ⟨fun _ => h, fun z => ?_⟩
      rw [if_pos hw] at z; exact absurd rfl z
    · rw [D_R_shift_23]
      exact vr_isCog M _ _ ⟨fun _ => h, fun z => absurd hw z⟩
  by_cases hm : mlv (M 44) c (M 44 6) = 0
  · refine op_run (r := -1000002) (M1 := M) (M2 := M) (fun Φ h => cls Φ ?_) ⟨rfl, rfl⟩ (fun Φ h => rfc M Φ h0 ?_) hI ⟨rfl, rfl⟩
    · rw [D_shift_26]
      refine v_canShift (k := 7) hR hc hc6 ev5 x _ ⟨fun _ => h, fun z => ?_⟩
      rw [if_neg hw] at z; exact absurd hm z
    · rw [D_R_shift_23]
      refine vr_isCog M _ _ ⟨fun z => absurd z hw, fun _ => ?_⟩
      have e5' : M 44 (Int32.toNatClampNeg 5) = nI c := ev5
      rw [e5']
      refine vr_canLeave hc6 _ _ ?_
      exact ⟨fun _ => h, fun z => absurd hm z⟩
  obtain ⟨c', ec', hc'⟩ := wi_nI (by omega) hw
  have hc6' : c' < 6 := by omega
  generalize ht : tov (M 44) c' = t
  have htb := tov_bnd (M 44) c'
  rw [ht] at htb
  refine op_run (r := nI c') (M1 := ShM 7 (KM M p s) x t c') (M2 := mu (mu (mu (RM (ShM 7 (KM M p s) x t c') s) 44 5 (nI c')) 44 7 (cap (M 44 7 + t))) 44 (29 + c') (cap (M 44 (29 + c') + t))) (fun Φ h => cls Φ ?_) ⟨rfl, rfl⟩ (fun Φ h => rfc _ Φ h0 ?_) ?_ ⟨rfl, rfl⟩
  · rw [D_shift_26]
    refine v_canShift (k := 7) hR hc hc6 ev5 x _ ⟨fun z => ?_, fun _ => ?_⟩
    · rw [if_neg hw] at z; exact absurd z hm
    · refine v_keep hp hs ep (eac.trans es) _ ?_
      rw [← ht] at h
      refine v_shiftCog (M := KM M p s) (k := 7) (v := M 44) hR hc' hc6' ec' _ ?_
      have : ShM 7 (KM M p s) x (tov (M 44) c') c' 7 6 = nI c' := by
        show M 7 6 + x = _
        rw [r6, ec']
      rw [this]; exact h
  · rw [D_R_shift_23]
    refine vr_isCog (ShM 7 (KM M p s) x t c') _ _ ⟨fun z => absurd z hw, fun _ => ?_⟩
    have e5' : ShM 7 (KM M p s) x t c' 44 (Int32.toNatClampNeg 5) = nI c := ev5
    have e6' : ShM 7 (KM M p s) x t c' 44 (Int32.toNatClampNeg 5) + x = nI c' := ec'
    rw [e6', e5']
    refine vr_canLeave (M := ShM 7 (KM M p s) x t c') (k := 44) hc6 _ _ ?_
    refine ⟨fun z => absurd z hm, fun _ => vr_know (M := ShM 7 (KM M p s) x t c') hs es _ (fun M7 e7 => ?_)⟩
    rw [e7]
    refine vr_shiftOnto (M := mu (RM (ShM 7 (KM M p s) x t c') s) 44 5 (nI c')) (k := 44) hc6' _ ?_
    have et : tov (mu (RM (ShM 7 (KM M p s) x t c') s) 44 5 (nI c') 44) c' = t := by
      rw [← ht]
      show tov (upd (M 44) 5 (nI c')) c' = tov (M 44) c'
      unfold tov
      rw [pk_un (by omega)]
    rw [et]
    refine vr_turnOn (M := mu (RM (ShM 7 (KM M p s) x t c') s) 44 5 (nI c')) t hc6' _ ?_
    have e29 : mu (RM (ShM 7 (KM M p s) x t c') s) 44 5 (nI c') 44 (29 + c') = M 44 (29 + c') := by
      show upd (M 44) 5 (nI c') (29 + c') = _
      exact pk_un (by omega)
    rw [e29]
    exact h
  · have hb := hcc c' hc'
    have hbv := (vc c' hc').2.2
    have ec7 := cap_bnd a8.1 a8.2 (n := t) (by omega) (by omega)
    have ec29 := cap_bnd hbv.1 hbv.2 (n := t) (by omega) (by omega)
    have gc := nI_toInt (n := c') (by omega)
    have hm := moved_bike (f' := upd (upd (M 7) 6 (M 7 6 + x)) 8 (cap (M 7 8 + t))) (on' := upd (M 11) c' (cap (M 11 c' + t))) (v' := upd (upd (upd (M 44) 5 (nI c')) 7 (cap (M 44 7 + t))) (29 + c') (cap (M 44 (29 + c') + t))) hR hV ?_ ?_ ?_ ?_ ?_ ?_ ?_ ?_ ?_ ?_ ?_
    · refine ⟨hI.1, hI.2.1, hI.2.2.1, ⟨hm.1, eT, Or.inl ⟨hT1, hm.2.1⟩⟩, act_acts hI.acts hR hV hm.2.2 hT1 ep es hp hs, hI.2.2.2.2.2⟩
    · intro i h1 h4
      rw [pk_un (by omega), pk_un (by omega)]
    · rw [pk_un (by decide), pk_un (by decide), pk_un (by omega), pk_un (by decide), pk_un (by decide)]; exact r5
    · rw [pk_un (by decide), pk_us, pk_un (by omega), pk_un (by decide), pk_us, r6]; exact ec'
    · rw [pk_un (by decide), pk_un (by decide), pk_un (by omega), pk_un (by decide), pk_un (by decide)]; exact r7
    · rw [pk_us, pk_un (by omega), pk_us, r8]
    · intro i hi
      rw [pk_un (by omega), pk_un (by omega), pk_un (by omega)]
    · intro i hi
      by_cases h : i = c'
      · subst h
        rw [pk_us, pk_us, hb.2.2]; exact ⟨rfl, ec29⟩
      · rw [pk_un h, pk_un (by omega), pk_un (by omega), pk_un (by omega)]
        exact ⟨(hcc i hi).2.2, (vc i hi).2.2⟩
    · rw [pk_un (by omega), pk_un (by decide), pk_un (by decide)]; exact a5
    · rw [pk_un (by omega), pk_un (by decide), pk_us]; omega
    · rw [pk_un (by omega), pk_un (by decide), pk_un (by decide)]; exact a7
    · rw [pk_un (by omega), pk_us]; exact ec7
theorem v_shiftRing (k : Nat) (x : Int32) : RunV (S_Bike_shiftRing k M x) (mu (mu M k 5 x) k 8 (cap (M k 8 + 5))) := by
  intro Φ h
  intro M1 q1
  refine v_turn k _ _ ?_
  have e8 : M1 k 8 = M k 8 := by rw [q1, mu_at, pk_un (by decide)]
  rw [e8, q1]; exact h
theorem op_front (hI : Inv M) : Op_front Inv M := by
  intro x
  have eT := hI.there
  by_cases h0 : M 39 5 = 0
  · refine op_run (r := -1000002) (M1 := M) (M2 := M) (fun Φ h => ?_) ⟨rfl, rfl⟩ (fun Φ h => ?_) hI ⟨rfl, rfl⟩
    · exact ⟨fun _ => h, fun z => absurd (eT.trans h0) z⟩
    · exact ⟨fun _ => h, fun z => absurd h0 z⟩
  by_cases hx : ¬ (x = 1 ∨ x = -1)
  · refine op_run (r := -1000001) (M1 := M) (M2 := M) (fun Φ h => ?_) ⟨rfl, rfl⟩ (fun Φ h => ?_) hI ⟨rfl, rfl⟩
    · exact ⟨fun z => absurd (eT.symm.trans z) h0, fun _ => ⟨fun z => absurd (Or.inl z) hx, fun _ => ⟨fun z => absurd (Or.inr z) hx, fun _ => h⟩⟩⟩
    · exact ⟨fun z => absurd z h0, fun _ => ⟨fun z => absurd (Or.inl z) hx, fun _ => ⟨fun z => absurd (Or.inr z) hx, fun _ => h⟩⟩⟩
  have hx := Classical.not_not.mp hx
  have cls : ∀ Φ : Int32 → Mm → Prop, D_front_26 Φ (x, M) → S_front M x Φ := fun Φ h => ⟨fun z => absurd (eT.symm.trans z) h0, fun _ => ⟨fun _ => h, fun z => ⟨fun _ => h, fun z2 => absurd hx (fun q => q.elim z z2)⟩⟩⟩
  have rfc : ∀ (M : Mm) (Φ : Int32 → Mm → Prop), ¬ M 39 5 = 0 → D_R_front_23 Φ (x, M) → S_R_front M x Φ := fun M Φ h0 h => ⟨fun z => absurd z h0, fun _ => ⟨fun _ => h, fun z => ⟨fun _ => h, fun z2 => absurd hx (fun q => q.elim z z2)⟩⟩⟩
  obtain ⟨hV, hT1⟩ := hI.vb h0
  have hR := hI.bike.1
  obtain ⟨eac, s, p, hs, hp, es, ep, -, hrec⟩ := hI.acts
  obtain ⟨⟨r1, r2, r3, r4, r5, r6, r7, r8⟩, -, hcc, hsl⟩ := id hR
  obtain ⟨⟨a1, a2, a3, a4, a5, a6, a7, a8⟩, -, vc, -⟩ := id hV
  by_cases hw : wi (M 44 4 + x) 0 (M 44 1 - 1) = 0
  · refine op_run (r := -1000002) (M1 := M) (M2 := M) (fun Φ h => cls Φ ?_) ⟨rfl, rfl⟩ (fun Φ h => rfc M Φ h0 ?_) hI ⟨rfl, rfl⟩
    · rw [D_front_26]
      refine v_hasRing 7 M _ _ ⟨fun _ => h, fun z => absurd ?_ z⟩
      rw [r5, r1]; exact hw
    · rw [D_R_front_23]
      exact v_in M _ _ _ _ ⟨fun _ => h, fun z => absurd hw z⟩
  obtain ⟨c', ec', hc'⟩ := wi_nI (by omega) hw
  have hc6' : c' < 3 := by omega
  refine op_run (r := M 44 4 + x) (M1 := mu (mu (KM M p s) 7 5 (M 44 4 + x)) 7 8 (cap (M 7 8 + 5))) (M2 := mu (mu (RM (mu (mu (KM M p s) 7 5 (M 44 4 + x)) 7 8 (cap (M 7 8 + 5))) s) 44 4 (M 44 4 + x)) 44 7 (cap (M 44 7 + 5))) (fun Φ h => cls Φ ?_) ⟨rfl, rfl⟩ (fun Φ h => rfc _ Φ h0 ?_) ?_ ⟨rfl, rfl⟩
  · rw [D_front_26]
    refine v_hasRing 7 M _ _ ⟨fun z => absurd z ?_, fun _ => ?_⟩
    · rw [r5, r1]; exact hw
    · refine v_keep hp hs ep (eac.trans es) _ ?_
      have e5' : KM M p s 7 5 + x = M 44 4 + x := by show M 7 5 + x = _; rw [r5]
      rw [e5']
      exact v_shiftRing (M := KM M p s) 7 _ _ h
  · rw [D_R_front_23]
    refine v_in _ _ _ _ _ ⟨fun z => absurd z hw, fun _ => vr_know (M := mu (mu (KM M p s) 7 5 (M 44 4 + x)) 7 8 (cap (M 7 8 + 5))) hs es _ (fun M5 e5 => ?_)⟩
    rw [e5]
    exact vr_turnOnNo (M := mu (RM (mu (mu (KM M p s) 7 5 (M 44 4 + x)) 7 8 (cap (M 7 8 + 5))) s) 44 4 (M 44 4 + x)) 5 _ h
  · have ec7 := cap_bnd a8.1 a8.2 (n := 5) (by rw [show (5 : Int32).toInt = 5 by decide]; omega) (by rw [show (5 : Int32).toInt = 5 by decide]; omega)
    have gc := nI_toInt (n := c') (by omega)
    have hm := moved_bike (f' := upd (upd (M 7) 5 (M 44 4 + x)) 8 (cap (M 7 8 + 5))) (on' := M 11) (v' := upd (upd (M 44) 4 (M 44 4 + x)) 7 (cap (M 44 7 + 5))) hR hV ?_ ?_ ?_ ?_ ?_ ?_ ?_ ?_ ?_ ?_ ?_
    · refine ⟨hI.1, hI.2.1, hI.2.2.1, ⟨hm.1, eT, Or.inl ⟨hT1, hm.2.1⟩⟩, act_acts hI.acts hR hV hm.2.2 hT1 ep es hp hs, hI.2.2.2.2.2⟩
    · intro i h1 h4
      rw [pk_un (by omega), pk_un (by omega)]
    · rw [pk_un (by decide), pk_us, pk_un (by decide), pk_us]
    · rw [pk_un (by decide), pk_un (by decide), pk_un (by decide), pk_un (by decide)]; exact r6
    · rw [pk_un (by decide), pk_un (by decide), pk_un (by decide), pk_un (by decide)]; exact r7
    · rw [pk_us, pk_us, r8]
    · intro i hi
      rw [pk_un (by omega), pk_un (by omega)]
    · intro i hi
      rw [pk_un (by omega), pk_un (by omega)]
      exact ⟨(hcc i hi).2.2, (vc i hi).2.2⟩
    · rw [pk_un (by decide), pk_us, ec']; omega
    · rw [pk_un (by decide), pk_un (by decide)]; exact a6
    · rw [pk_un (by decide), pk_un (by decide)]; exact a7
    · rw [pk_us]; exact ec7
end Rides
