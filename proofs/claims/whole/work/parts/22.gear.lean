/-! GEARS: load, turns, what is borne, over a BIKE of the class (cell k) and the reference's row v -/
theorem tI_dm {a d : Int32} (ha : 0 ≤ a.toInt) (hd : 0 < d.toInt) : (a / d).toInt = a.toInt / d.toInt ∧ (irm a d).toInt = a.toInt % d.toInt := by
  have ba := tI_bnd a
  have h0 : (a / d).toInt = a.toInt / d.toInt := by
    rw [Int32.toInt_div, Int.tdiv_eq_ediv_of_nonneg ha]
    have h1 : 0 ≤ a.toInt / d.toInt := Int.ediv_nonneg ha (by omega)
    have h2 : a.toInt / d.toInt ≤ a.toInt := Int.ediv_le_self _ ha
    exact bmod_in (by omega) (by omega)
  refine ⟨h0, ?_⟩
  have h3 := Int.mul_ediv_add_emod a.toInt d.toInt
  have h4 := Int.emod_nonneg a.toInt (by omega : d.toInt ≠ 0)
  have h5 := Int.emod_lt_of_pos a.toInt hd
  have h6 : (a / d).toInt * d.toInt = d.toInt * (a.toInt / d.toInt) := by rw [h0, Int.mul_comm]
  have h7 : 0 ≤ a.toInt / d.toInt := Int.ediv_nonneg ha (by omega)
  have h8 : 0 ≤ d.toInt * (a.toInt / d.toInt) := Int.mul_nonneg (by omega) h7
  have h9 : (a / d * d).toInt = d.toInt * (a.toInt / d.toInt) := by
    rw [tI_mul (by rw [h6]; omega) (by rw [h6]; omega), h6]
  unfold irm
  rw [tI_sub (by rw [h9]; omega) (by rw [h9]; omega), h9]
  omega
theorem nI_of_toInt {a : Int32} {n : Nat} (h : a.toInt = n) : a = nI n := by
  have b := tI_bnd a
  rw [tI_eq, h, nI_toInt (by omega)]
/-- is it a GEAR -/
def ig (v : Nat → Int32) (a : Int32) : Int32 := if 0 ≤ a.toInt ∧ a.toInt / 6 < (v 1).toInt ∧ a.toInt % 6 < (v 2).toInt then 1 else 0
theorem ig_01 (v : Nat → Int32) (a : Int32) : ig v a = 0 ∨ ig v a = 1 := by unfold ig; split <;> simp
theorem ig_1 {v : Nat → Int32} {a : Int32} (h : ¬ ig v a = 0) : 0 ≤ a.toInt ∧ a.toInt / 6 < (v 1).toInt ∧ a.toInt % 6 < (v 2).toInt := by
  unfold ig at h; split at h
  · assumption
  · exact absurd rfl h
/-- the counts are none or in range -/
def CB (v : Nat → Int32) : Prop := (0 ≤ (v 1).toInt ∧ (v 1).toInt ≤ 3) ∧ (0 ≤ (v 2).toInt ∧ (v 2).toInt ≤ 6) ∧ (0 ≤ (v 3).toInt ∧ (v 3).toInt ≤ 6)
theorem VB.cb {v : Nat → Int32} (h : VB v) : CB v := by obtain ⟨⟨h1, h2, h3, -⟩, -⟩ := h; exact ⟨by omega, by omega, by omega⟩
theorem IBike.cb {f rg kd th on sl v : Nat → Int32} {t : Int32} (h : IBike f rg kd th on sl v t) : CB v := by
  rcases h.2.2 with ⟨-, h⟩ | ⟨-, h⟩
  · exact h.cb
  · have e1 := h 1 (by decide); have e2 := h 2 (by decide); have e3 := h 3 (by decide)
    unfold CB; rw [e1, e2, e3]; exact ⟨by decide, by decide, by decide⟩
theorem gear_ix {v : Nat → Int32} (hC : CB v) {a : Int32} (h : ¬ ig v a = 0) : ∃ r c : Nat, (r : Int) < (v 1).toInt ∧ (c : Int) < (v 2).toInt ∧ r < 3 ∧ c < 6 ∧ a / 6 = nI r ∧ irm a 6 = nI c := by
  obtain ⟨h1, h2, h3⟩ := ig_1 h
  have hdm := tI_dm (d := 6) h1 (by decide)
  have e6 : (6 : Int32).toInt = 6 := by decide
  rw [e6] at hdm
  obtain ⟨c1, c2, c3⟩ := hC
  refine ⟨(a.toInt / 6).toNat, (a.toInt % 6).toNat, by omega, by omega, by omega, by omega, nI_of_toInt (by rw [hdm.1]; omega), nI_of_toInt (by rw [hdm.2]; omega)⟩
theorem sub1 {x : Int32} (h : 0 ≤ x.toInt) : (x - 1).toInt = x.toInt - 1 := by
  have e1 : (1 : Int32).toInt = 1 := by decide
  have b := tI_bnd x
  rw [tI_sub (by rw [e1]; omega) (by rw [e1]; omega), e1]
theorem v_hasGear {k : Nat} {M : Mm} {v : Nat → Int32} (hC : CB v) (e1 : M k 1 = v 1) (e2 : M k 2 = v 2) (a : Int32) : Val (S_Bike_hasGear k M a) (ig v a) := by
  intro Φ h
  obtain ⟨c1, c2, c3⟩ := hC
  have e6 : (6 : Int32).toInt = 6 := by decide
  have e0 : (0 : Int32).toInt = 0 := by decide
  refine ⟨fun h1 => ?_, fun h1 => v_hasRing k M _ _ ⟨fun h2 => ?_, fun h2 => v_hasCog k M _ _ ⟨fun h3 => ?_, fun h3 => ?_⟩⟩⟩ <;> rw [tI_lt, e0] at h1
  · unfold ig at h; rw [if_neg (by omega)] at h; exact h
  · have hdm := tI_dm (a := a) (d := 6) (by omega) (by decide)
    rw [e6] at hdm
    have := wi_0 h2
    rw [e1, sub1 (by omega), hdm.1, e0] at this
    unfold ig at h; rw [if_neg (by omega)] at h; exact h
  · have hdm := tI_dm (a := a) (d := 6) (by omega) (by decide)
    rw [e6] at hdm
    have := wi_0 h3
    rw [e2, sub1 (by omega), hdm.2, e0] at this
    unfold ig at h; rw [if_neg (by omega)] at h; exact h
  · have hdm := tI_dm (a := a) (d := 6) (by omega) (by decide)
    rw [e6] at hdm
    have w2 := wi_1 h2
    have w3 := wi_1 h3
    rw [e1, sub1 (by omega), hdm.1, e0] at w2
    rw [e2, sub1 (by omega), hdm.2, e0] at w3
    unfold ig at h; rw [if_pos (by omega)] at h; exact h
theorem vr_isGear (M : Mm) (a : Int32) : Val (S_R_isGear M a) (ig (M 44) a) := by
  intro Φ h
  have e6 : (6 : Int32).toInt = 6 := by decide
  have e0 : (0 : Int32).toInt = 0 := by decide
  refine ⟨fun h1 => ?_, fun h1 => ⟨fun h2 => ?_, fun h2 => ⟨fun h3 => ?_, fun h3 => ?_⟩⟩⟩ <;> rw [tI_lt, e0] at h1
  · unfold ig at h; rw [if_neg (by omega)] at h; exact h
  all_goals have hdm := tI_dm (a := a) (d := 6) (by omega) (by decide)
  all_goals rw [e6] at hdm
  all_goals rw [tI_le, hdm.1] at h2
  · have h2 : (M 44 1).toInt ≤ a.toInt / 6 := h2
    unfold ig at h; rw [if_neg (by omega)] at h; exact h
  · rw [tI_le, hdm.2] at h3
    have h3 : (M 44 2).toInt ≤ a.toInt % 6 := h3
    unfold ig at h; rw [if_neg (by omega)] at h; exact h
  · rw [tI_le, hdm.2] at h3
    have h3 : ¬ (M 44 2).toInt ≤ a.toInt % 6 := h3
    have h2 : ¬ (M 44 1).toInt ≤ a.toInt / 6 := h2
    unfold ig at h; rw [if_pos (by omega)] at h; exact h
/-- LOAD and TURNS -/
def ldv (v : Nat → Int32) (r c : Nat) (s : Int32) : Int32 := if (v (11 + c)).toInt < 4 then (((s + 1) * v (8 + r)) * 10) / v (17 + c) else (((s + 1) * v (8 + r)) * 10) / v (17 + c) - ((((s + 1) * v (8 + r)) * 10) / v (17 + c)) / 10
def tnv (v : Nat → Int32) (r c : Nat) : Int32 := if v (11 + c) = 2 then (((100 * v (17 + c)) / v (8 + r)) + 1) + ((((100 * v (17 + c)) / v (8 + r)) + 1) / 4) else ((100 * v (17 + c)) / v (8 + r)) + 1
theorem v_loadBy (M : Mm) {rt ct kd s : Int32} (h : 0 < ct.toInt) : Val (S_Bike_loadBy M rt ct kd s) (if kd = 4 ∨ kd = 5 then (((s + 1) * rt) * 10) / ct - ((((s + 1) * rt) * 10) / ct) / 10 else (((s + 1) * rt) * 10) / ct) := by
  intro Φ k
  have e0 : (0 : Int32).toInt = 0 := by decide
  refine ⟨fun _ => ⟨fun h0 => by rw [h0, e0] at h; omega, fun h4 => ?_, fun h4 => ⟨fun h5 => ?_, fun h5 => ?_⟩⟩, fun n => absurd (by rw [tI_lt, e0]; exact h) n⟩
  · rw [if_pos (Or.inl h4)] at k; exact k
  · rw [if_pos (Or.inr h5)] at k; exact k
  · rw [if_neg (fun q => q.elim h4 h5)] at k; exact k
theorem v_turnsBy (M : Mm) {rt ct kd : Int32} (h : 0 < rt.toInt) : Val (S_Bike_turnsBy M rt ct kd) (if kd = 2 then (((100 * ct) / rt) + 1) + ((((100 * ct) / rt) + 1) / 4) else ((100 * ct) / rt) + 1) := by
  intro Φ k
  have e0 : (0 : Int32).toInt = 0 := by decide
  refine ⟨fun _ => ⟨fun h0 => by rw [h0, e0] at h; omega, fun h4 => ?_, fun h4 => ?_⟩, fun n => absurd (by rw [tI_lt, e0]; exact h) n⟩
  · rw [if_pos h4] at k; exact k
  · rw [if_neg h4] at k; exact k
theorem in_nI {x : Int32} {n N : Nat} (e : x = nI n) (h : n < N) (hN : N < 2 ^ 31) : vp_in x N := by rw [e]; exact vp_in_nI h hN
theorem cl_nI {x : Int32} {n : Nat} (e : x = nI n) (h : n < 2 ^ 31) : x.toNatClampNeg = n := by rw [e]; exact nI_clamp h
theorem kind_lt {x : Int32} (h1 : 1 ≤ x.toInt) (h5 : x.toInt ≤ 5) : (x = 4 ∨ x = 5) ↔ ¬ x.toInt < 4 := by
  have e4 : (4 : Int32).toInt = 4 := by decide
  have e5 : (5 : Int32).toInt = 5 := by decide
  rw [tI_eq, tI_eq, e4, e5]; omega
section Gears
variable {k : Nat} {M : Mm} {v : Nat → Int32}
theorem v_loadOf (hR : RelB (M k) (M (k + 1)) (M (k + 2)) (M (k + 3)) (M (k + 4)) (M (k + 5)) v) (hV : VB v) {a s : Int32} {r c : Nat} (hg : ¬ ig v a = 0) (hr : (r : Int) < (v 1).toInt) (hc : (c : Int) < (v 2).toInt) (hr3 : r < 3) (hc6 : c < 6) (er : a / 6 = nI r) (ec : irm a 6 = nI c) : Val (S_Bike_loadOf k M a s) (ldv v r c s) := by
  intro Φ h
  obtain ⟨hk1, hk2, hk3⟩ := hV.2.2.1 c hc
  obtain ⟨q1, q2, q3⟩ := hR.2.2.1 c hc
  refine v_hasGear hV.cb hR.1.1 hR.1.2.1 a _ ⟨fun n => absurd n hg, fun _ => ⟨in_nI er hr3 (by decide), in_nI ec hc6 (by decide), in_nI ec hc6 (by decide), ?_⟩⟩
  rw [cl_nI er (by omega), cl_nI ec (by omega), hR.2.1 r hr, q1, q2]
  refine v_loadBy M (by omega) _ ?_
  unfold ldv at h
  by_cases h4 : (v (11 + c)).toInt < 4
  · rw [if_pos h4] at h
    rw [if_neg (fun q => (kind_lt hk1.1 hk1.2).mp q h4)]; exact h
  · rw [if_neg h4] at h
    rw [if_pos ((kind_lt hk1.1 hk1.2).mpr h4)]; exact h
theorem v_turnsOf (hR : RelB (M k) (M (k + 1)) (M (k + 2)) (M (k + 3)) (M (k + 4)) (M (k + 5)) v) (hV : VB v) {a : Int32} {r c : Nat} (hg : ¬ ig v a = 0) (hr : (r : Int) < (v 1).toInt) (hc : (c : Int) < (v 2).toInt) (hr3 : r < 3) (hc6 : c < 6) (er : a / 6 = nI r) (ec : irm a 6 = nI c) : Val (S_Bike_turnsOf k M a) (tnv v r c) := by
  intro Φ h
  obtain ⟨q1, q2, q3⟩ := hR.2.2.1 c hc
  have hrt := hV.2.1 r hr
  refine v_hasGear hV.cb hR.1.1 hR.1.2.1 a _ ⟨fun n => absurd n hg, fun _ => ⟨in_nI er hr3 (by decide), in_nI ec hc6 (by decide), in_nI ec hc6 (by decide), ?_⟩⟩
  rw [cl_nI er (by omega), cl_nI ec (by omega), hR.2.1 r hr, q1, q2]
  exact v_turnsBy M (by omega) _ h
theorem v_bears (hR : RelB (M k) (M (k + 1)) (M (k + 2)) (M (k + 3)) (M (k + 4)) (M (k + 5)) v) (hV : VB v) {a s : Int32} {r c : Nat} (hg : ¬ ig v a = 0) (hr : (r : Int) < (v 1).toInt) (hc : (c : Int) < (v 2).toInt) (hr3 : r < 3) (hc6 : c < 6) (er : a / 6 = nI r) (ec : irm a 6 = nI c) : Val (S_Bike_bears k M a s) (if v 0 < ldv v r c s then 0 else 1) := by
  intro Φ h
  refine v_hasGear hV.cb hR.1.1 hR.1.2.1 a _ ⟨fun n => absurd n hg, fun _ => v_loadOf hR hV hg hr hc hr3 hc6 er ec _ ?_⟩
  rw [hR.1.2.2.2.1]
  refine ⟨fun q => ?_, fun q => ?_⟩
  · rw [if_pos q] at h; exact h
  · rw [if_neg q] at h; exact h
theorem v_bears0 (hC : CB v) (e1 : M k 1 = v 1) (e2 : M k 2 = v 2) {a s : Int32} (hg : ig v a = 0) : Val (S_Bike_bears k M a s) 0 := fun Φ h => v_hasGear hC e1 e2 a _ ⟨fun _ => h, fun n => absurd hg n⟩
theorem nI8 {x : Int32} {n : Nat} (m : Nat) (e : x = nI n) : nI m + x = nI (m + n) := by rw [e, nI_add]
theorem vr_loadOf (hV : VB (M k)) {a s : Int32} {r c : Nat} (hr : (r : Int) < (M k 1).toInt) (hc : (c : Int) < (M k 2).toInt) (hr3 : r < 3) (hc6 : c < 6) (er : a / 6 = nI r) (ec : irm a 6 = nI c) : Val (S_R_loadOf k M a s) (ldv (M k) r c s) := by
  intro Φ h
  have hk := hV.2.2.1 c hc
  have e8 : (8 : Int32) + a / 6 = nI (8 + r) := nI8 8 er
  have e17 : (17 : Int32) + irm a 6 = nI (17 + c) := nI8 17 ec
  have e11 : (11 : Int32) + irm a 6 = nI (11 + c) := nI8 11 ec
  have e0 : (0 : Int32).toInt = 0 := by decide
  have e4 : (4 : Int32).toInt = 4 := by decide
  unfold S_R_loadOf
  rw [e8, e17, e11, nI_clamp (by omega), nI_clamp (by omega), nI_clamp (by omega)]
  refine ⟨vp_in_nI (by omega) (by decide), vp_in_nI (by omega) (by decide), fun q => by rw [q, e0] at hk; omega, vp_in_nI (by omega) (by decide), fun q => ?_, fun q => ?_⟩
  · rw [tI_lt, e4] at q
    unfold ldv at h; rw [if_pos q] at h; exact h
  · rw [tI_lt, e4] at q
    unfold ldv at h; rw [if_neg q] at h; exact h
theorem vr_turnsOf (hV : VB (M k)) {a : Int32} {r c : Nat} (hr : (r : Int) < (M k 1).toInt) (hc : (c : Int) < (M k 2).toInt) (hr3 : r < 3) (hc6 : c < 6) (er : a / 6 = nI r) (ec : irm a 6 = nI c) : Val (S_R_turnsOf k M a) (tnv (M k) r c) := by
  intro Φ h
  have hrt := hV.2.1 r hr
  have e8 : (8 : Int32) + a / 6 = nI (8 + r) := nI8 8 er
  have e17 : (17 : Int32) + irm a 6 = nI (17 + c) := nI8 17 ec
  have e11 : (11 : Int32) + irm a 6 = nI (11 + c) := nI8 11 ec
  have e0 : (0 : Int32).toInt = 0 := by decide
  unfold S_R_turnsOf
  rw [e8, e17, e11, nI_clamp (by omega), nI_clamp (by omega), nI_clamp (by omega)]
  refine ⟨vp_in_nI (by omega) (by decide), vp_in_nI (by omega) (by decide), fun q => by rw [q, e0] at hrt; omega, vp_in_nI (by omega) (by decide), fun q => ?_, fun q => ?_⟩
  · unfold tnv at h; rw [if_pos q] at h; exact h
  · unfold tnv at h; rw [if_neg q] at h; exact h
theorem vr_bears (hV : VB (M k)) {a p : Int32} {r c j : Nat} (hr : (r : Int) < (M k 1).toInt) (hc : (c : Int) < (M k 2).toInt) (hr3 : r < 3) (hc6 : c < 6) (er : a / 6 = nI r) (ec : irm a 6 = nI c) (ep : p = nI j) (hj : j < 6) : Val (S_R_bears k M a p) (if M k 0 < ldv (M k) r c (M k (23 + j)) then 0 else 1) := by
  intro Φ h
  have e23 : (23 : Int32) + p = nI (23 + j) := nI8 23 ep
  unfold S_R_bears
  rw [e23, nI_clamp (by omega)]
  refine ⟨vp_in_nI (by omega) (by decide), vr_loadOf hV hr hc hr3 hc6 er ec _ ?_⟩
  refine ⟨fun q => ?_, fun q => ?_⟩
  · have q : M k 0 < _ := q
    rw [if_pos q] at h; exact h
  · have q : ¬ M k 0 < _ := q
    rw [if_neg q] at h; exact h
/-- the GEAR as it is -/
theorem gear_now (hV : VB v) {a : Int32} (ha : a = 6 * v 4 + v 5) : ¬ ig v a = 0 ∧ ∃ r c : Nat, (r : Int) < (v 1).toInt ∧ (c : Int) < (v 2).toInt ∧ r < 3 ∧ c < 6 ∧ a / 6 = nI r ∧ irm a 6 = nI c ∧ v 4 = nI r ∧ v 5 = nI c := by
  obtain ⟨⟨h1, h2, h3, h4, h5, h6, h7, h8⟩, -⟩ := hV
  have e6 : (6 : Int32).toInt = 6 := by decide
  have m : ((6 : Int32) * v 4).toInt = 6 * (v 4).toInt := by rw [tI_mul (by rw [e6]; omega) (by rw [e6]; omega), e6]
  have t : a.toInt = 6 * (v 4).toInt + (v 5).toInt := by rw [ha, tI_add (by rw [m]; omega) (by rw [m]; omega), m]
  have hdm := tI_dm (a := a) (d := 6) (by omega) (by decide)
  rw [e6] at hdm
  refine ⟨by unfold ig; rw [if_pos (by omega)]; decide, (v 4).toInt.toNat, (v 5).toInt.toNat, by omega, by omega, by omega, by omega, nI_of_toInt (by rw [hdm.1]; omega), nI_of_toInt (by rw [hdm.2]; omega), nI_of_toInt (by omega), nI_of_toInt (by omega)⟩
end Gears
