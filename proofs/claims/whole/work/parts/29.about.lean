/-! ABOUT -/
def abF (sl : Nat → Int32) (n j : Nat) : Nat → Int32 := fun z => if z < j ∨ (n - j ≤ z ∧ z < n) then 9 - sl (n - 1 - z) else sl z
def rvF (v : Nat → Int32) (n j : Nat) : Nat → Int32 := fun z => if (23 ≤ z ∧ z < 23 + j) ∨ (23 + n - j ≤ z ∧ z < 23 + n) then v (45 + n - z) else v z
def ngF (v : Nat → Int32) (j : Nat) : Nat → Int32 := fun z => if 23 ≤ z ∧ z < 23 + j then 9 - v z else v z
def abV (v : Nat → Int32) (n : Nat) : Nat → Int32 := upd (ngF (rvF v n (n / 2)) n) 6 (nI n - v 6)
theorem abF_s {sl : Nat → Int32} {n j : Nat} (h : 2 * j + 1 ≤ n) : upd (upd (abF sl n j) j (9 - abF sl n j (n - 1 - j))) (n - 1 - j) (9 - abF sl n j j) = abF sl n (j + 1) := by
  funext z
  have h1 : abF sl n j (n - 1 - j) = sl (n - 1 - j) := by unfold abF; rw [if_neg (by omega)]
  have h2 : abF sl n j j = sl j := by unfold abF; rw [if_neg (by omega)]
  rw [h1, h2]
  by_cases e1 : z = n - 1 - j
  · rw [e1, pk_us]; unfold abF; rw [if_pos (by omega), show n - 1 - (n - 1 - j) = j by omega]
  · rw [pk_un e1]
    by_cases e2 : z = j
    · rw [e2, pk_us]; unfold abF; rw [if_pos (by omega)]
    · rw [pk_un e2]; unfold abF
      by_cases e3 : z < j ∨ n - j ≤ z ∧ z < n
      · rw [if_pos e3, if_pos (by omega)]
      · rw [if_neg e3, if_neg (by omega)]
theorem rvF_s {v : Nat → Int32} {n j : Nat} (h : 2 * j + 2 ≤ n) : upd (upd (rvF v n j) (23 + j) (rvF v n j (22 + n - j))) (22 + n - j) (rvF v n j (23 + j)) = rvF v n (j + 1) := by
  funext z
  have h1 : rvF v n j (22 + n - j) = v (22 + n - j) := by unfold rvF; rw [if_neg (by omega)]
  have h2 : rvF v n j (23 + j) = v (23 + j) := by unfold rvF; rw [if_neg (by omega)]
  rw [h1, h2]
  by_cases e1 : z = 22 + n - j
  · rw [e1, pk_us]; unfold rvF; rw [if_pos (by omega), show 45 + n - (22 + n - j) = 23 + j by omega]
  · rw [pk_un e1]
    by_cases e2 : z = 23 + j
    · rw [e2, pk_us]; unfold rvF; rw [if_pos (by omega), show 45 + n - (23 + j) = 22 + n - j by omega]
    · rw [pk_un e2]; unfold rvF
      by_cases e3 : 23 ≤ z ∧ z < 23 + j ∨ 23 + n - j ≤ z ∧ z < 23 + n
      · rw [if_pos e3, if_pos (by omega)]
      · rw [if_neg e3, if_neg (by omega)]
theorem ngF_s {v : Nat → Int32} {j : Nat} : upd (ngF v j) (23 + j) (9 - ngF v j (23 + j)) = ngF v (j + 1) := by
  funext z
  have h1 : ngF v j (23 + j) = v (23 + j) := by unfold ngF; rw [if_neg (by omega)]
  rw [h1]
  by_cases e1 : z = 23 + j
  · rw [e1, pk_us]; unfold ngF; rw [if_pos (by omega)]
  · rw [pk_un e1]; unfold ngF
    by_cases e3 : 23 ≤ z ∧ z < 23 + j
    · rw [if_pos e3, if_pos (by omega)]
    · rw [if_neg e3, if_neg (by omega)]
theorem abF_0 (sl : Nat → Int32) (n : Nat) : abF sl n 0 = sl := by
  funext z; unfold abF; rw [if_neg (by omega)]
theorem rvF_0 (v : Nat → Int32) (n : Nat) : rvF v n 0 = v := by
  funext z; unfold rvF; rw [if_neg (by omega)]
theorem ngF_0 (v : Nat → Int32) : ngF v 0 = v := by
  funext z; unfold ngF; rw [if_neg (by omega)]
theorem abF_at (sl : Nat → Int32) {n z : Nat} (h : z < n) : abF sl n ((n + 1) / 2) z = 9 - sl (n - 1 - z) := by
  unfold abF; rw [if_pos (by omega)]
theorem abV_at (v : Nat → Int32) {n z : Nat} (h : z < n) : abV v n (23 + z) = 9 - v (23 + (n - 1 - z)) := by
  unfold abV
  rw [pk_un (by omega)]; unfold ngF
  rw [if_pos (by omega)]; unfold rvF
  by_cases e : 23 ≤ 23 + z ∧ 23 + z < 23 + n / 2 ∨ 23 + n - n / 2 ≤ 23 + z ∧ 23 + z < 23 + n
  · rw [if_pos e, show 45 + n - (23 + z) = 23 + (n - 1 - z) by omega]
  · rw [if_neg e, show 23 + z = 23 + (n - 1 - z) by omega]
theorem abV_out (v : Nat → Int32) {n z : Nat} (h : z < 23 ∨ 23 + n ≤ z) (h6 : ¬ z = 6) : abV v n z = v z := by
  unfold abV
  rw [pk_un h6]; unfold ngF
  rw [if_neg (by omega)]; unfold rvF
  rw [if_neg (by omega)]
theorem sub9 {x : Int32} (h0 : 0 ≤ x.toInt) (h9 : x.toInt ≤ 9) : (9 - x).toInt = 9 - x.toInt := by
  have e9 : (9 : Int32).toInt = 9 := by decide
  rw [tI_sub (by rw [e9]; omega) (by rw [e9]; omega), e9]
theorem about_bike {f rg kd th on sl v : Nat → Int32} {n : Nat} (hR : RelB f rg kd th on sl v) (hV : VB v) (en : v 3 = nI n) (hn : 1 ≤ n) (h6 : n ≤ 6) : RelB (upd f 7 (f 3 - f 7)) rg kd th on (abF sl n ((n + 1) / 2)) (abV v n) ∧ VB (abV v n) ∧ Stay v (abV v n) := by
  obtain ⟨⟨r1, r2, r3, r4, r5, r6, r7, r8⟩, hr, hc, hs⟩ := hR
  obtain ⟨⟨a1, a2, a3, a4, a5, a6, a7, a8⟩, vr, vc, vs⟩ := hV
  have gn : (v 3).toInt = n := by rw [en]; exact nI_toInt (n := n) (by omega)
  have q0 := abV_out v (n := n) (z := 0) (by omega) (by omega)
  have q1 := abV_out v (n := n) (z := 1) (by omega) (by omega)
  have q2 := abV_out v (n := n) (z := 2) (by omega) (by omega)
  have q3 := abV_out v (n := n) (z := 3) (by omega) (by omega)
  have q4 := abV_out v (n := n) (z := 4) (by omega) (by omega)
  have q5 := abV_out v (n := n) (z := 5) (by omega) (by omega)
  have q7 := abV_out v (n := n) (z := 7) (by omega) (by omega)
  have q6 : abV v n 6 = v 3 - v 6 := by unfold abV; rw [pk_us, en]
  have e6 : (v 3 - v 6).toInt = (v 3).toInt - (v 6).toInt := tI_sub (by omega) (by omega)
  unfold RelB VB
  rw [q0, q1, q2, q3, q4, q5, q6, q7, e6]
  refine ⟨⟨⟨(pk_un (by decide)).trans r1, (pk_un (by decide)).trans r2, (pk_un (by decide)).trans r3, (pk_un (by decide)).trans r4, (pk_un (by decide)).trans r5, (pk_un (by decide)).trans r6, ?_, (pk_un (by decide)).trans r8⟩, fun i hi => ?_, fun i hi => ?_, fun i hi => ?_⟩, ⟨⟨a1, a2, a3, a4, a5, a6, by omega, a8⟩, fun i hi => ?_, fun i hi => ?_, fun i hi => ?_⟩, fun j hj => (abV_out v (by omega) (by omega)).symm⟩
  · rw [pk_us, r3, r7]
  · rw [abV_out v (by omega) (by omega)]; exact hr i hi
  · rw [abV_out v (by omega) (by omega), abV_out v (by omega) (by omega), abV_out v (by omega) (by omega)]; exact hc i hi
  · rw [abF_at sl (by omega), abV_at v (by omega), hs _ (by omega)]
  · rw [abV_out v (by omega) (by omega)]; exact vr i hi
  · rw [abV_out v (by omega) (by omega), abV_out v (by omega) (by omega), abV_out v (by omega) (by omega)]; exact vc i hi
  · have := vs (n - 1 - i) (by omega)
    rw [abV_at v (by omega), sub9 this.1 this.2]; omega
section About
variable {M : Mm}
theorem v_turnAbout (k : Nat) {n : Nat} (en : M k 3 = nI n) (hn : 1 ≤ n) (h6 : n ≤ 6) : RunV (S_Bike_turnAbout k M) (mu (ms M (k + 5) (abF (M (k + 5)) n ((n + 1) / 2))) k 7 (M k 3 - M k 7)) := by
  intro Φ h
  have ne : ¬ k = k + 5 := by omega
  have ek : ∀ F, ms M (k + 5) F k = M k := fun F => by unfold ms; rw [if_neg ne]
  refine lp_ex (fun q (a : Int32 × Int32 × Mm) => ∃ j, j + q = (n + 1) / 2 ∧ a = (nI j, nI (n - j) - 1, ms M (k + 5) (abF (M (k + 5)) n j))) ?_ ?_ (i := (n + 1) / 2) ⟨0, by omega, ?_⟩
  · rintro a ⟨j, hj, rfl⟩ rec
    obtain rfl : j = (n + 1) / 2 := by omega
    refine ⟨fun _ M4 e4 => ?_, fun z => absurd ?_ z⟩
    · rw [e4, ek]; exact h
    · have g1 := nI_toInt (n := (n + 1) / 2) (by omega)
      have g2 := nI_toInt (n := n - (n + 1) / 2) (by omega)
      rw [tI_lt, sub1 (by omega), g1, g2]; omega
  · rintro q a ⟨j, hj, rfl⟩ rec hrec
    have hjn : 2 * j + 1 ≤ n := by omega
    have ex : nI (n - j) - 1 = nI (n - 1 - j) := by
      rw [show n - 1 - j = n - j - 1 by omega]
      exact pk_sub (a := n - j) (b := 1) (by omega)
    have g1 := nI_toInt (n := j) (by omega)
    have g2 := nI_toInt (n := n - 1 - j) (by omega)
    rw [D_Bike_turnAbout_9, ex]
    refine ⟨fun z => ?_, fun _ => ?_⟩
    · rw [tI_lt, g1, g2] at z; omega
    · refine ⟨vp_in_nI (by omega) (by decide), vp_in_nI (by omega) (by decide), vp_in_nI (by omega) (by decide), fun M5 e5 => ⟨vp_in_nI (by omega) (by decide), fun M6 e6 => hrec _ ⟨j + 1, by omega, ?_⟩⟩⟩
      rw [e6, e5, nI_clamp (by omega), nI_clamp (by omega), nI_inc, ms_at, mu_ms, mu_ms, abF_s hjn]
      rw [show n - (j + 1) = n - 1 - j by omega, Int32.sub_eq_add_neg]
  · rw [abF_0, ms_self, en]; rfl
theorem vr_turnAbout (k : Nat) {n : Nat} (en : M k 3 = nI n) (hn : 1 ≤ n) (h6 : n ≤ 6) : RunV (S_R_turnAbout k M) (ms M k (abV (M k) n)) := by
  intro Φ h
  have en' : M k (Int32.toNatClampNeg 3) = nI n := en
  unfold S_R_turnAbout
  rw [en']
  refine lp_ex (fun q (a : Int32 × Int32 × Mm) => ∃ j, j + q = n / 2 ∧ a = (nI n, nI j, ms M k (rvF (M k) n j))) ?_ ?_ (i := n / 2) ⟨0, by omega, ?_⟩
  · rintro a ⟨j, hj, rfl⟩ rec
    obtain rfl : j = n / 2 := by omega
    have ex : nI n - 1 - nI (n / 2) = nI (n - 1 - n / 2) := by
      rw [show nI n - 1 = nI (n - 1) from pk_sub (a := n) (b := 1) hn]
      exact pk_sub (by omega)
    have g1 := nI_toInt (n := n / 2) (by omega)
    have g2 := nI_toInt (n := n - 1 - n / 2) (by omega)
    rw [D_R_turnAbout_6, ex]
    refine ⟨fun _ => ?_, fun z => absurd (by rw [tI_le, g1, g2]; omega) z⟩
    refine lp_ex (fun q (a : Int32 × Int32 × Mm) => ∃ j, j + q = n ∧ a = (nI n, nI j, ms M k (ngF (rvF (M k) n (n / 2)) j))) ?_ ?_ (i := n) ⟨0, by omega, ?_⟩
    · rintro a ⟨j, hj, rfl⟩ rec
      obtain rfl : j = n := by omega
      refine ⟨fun _ M4 e4 => ?_, fun z => absurd (by rw [tI_le]; omega) z⟩
      rw [e4, mu_ms, ms_at]
      have e6 : ngF (rvF (M k) j (j / 2)) j (Int32.toNatClampNeg 6) = M k 6 := by
        show ngF (rvF (M k) j (j / 2)) j 6 = M k 6
        unfold ngF; rw [if_neg (by omega)]; unfold rvF; rw [if_neg (by omega)]
      rw [e6]
      exact h
    · rintro q a ⟨j, hj, rfl⟩ rec hrec
      have e23 : (23 : Int32) + nI j = nI (23 + j) := nI8 23 rfl
      rw [D_R_turnAbout_57, e23]
      refine ⟨fun z => absurd z (nle n (by omega) (by omega)), fun _ => ⟨vp_in_nI (by omega) (by decide), vp_in_nI (by omega) (by decide), fun M5 e5 => hrec _ ⟨j + 1, by omega, ?_⟩⟩⟩
      rw [e5, nI_clamp (by omega), nI_inc, ms_at, mu_ms, ngF_s]
    · rw [ngF_0]; rfl
  · rintro q a ⟨j, hj, rfl⟩ rec hrec
    have hjn : 2 * j + 2 ≤ n := by omega
    have ex : nI n - 1 - nI j = nI (n - 1 - j) := by
      rw [show nI n - 1 = nI (n - 1) from pk_sub (a := n) (b := 1) hn]
      exact pk_sub (by omega)
    have ey : (23 : Int32) + nI n - 1 - nI j = nI (22 + n - j) := by
      rw [show (23 : Int32) + nI n = nI (23 + n) from nI8 23 rfl, show nI (23 + n) - 1 = nI (23 + n - 1) from pk_sub (a := 23 + n) (b := 1) (by omega), pk_sub (by omega), show 23 + n - 1 - j = 22 + n - j by omega]
    have e23 : (23 : Int32) + nI j = nI (23 + j) := nI8 23 rfl
    have g1 := nI_toInt (n := j) (by omega)
    have g2 := nI_toInt (n := n - 1 - j) (by omega)
    rw [D_R_turnAbout_6, ex, ey, e23]
    refine ⟨fun z => ?_, fun _ => ⟨vp_in_nI (by omega) (by decide), vp_in_nI (by omega) (by decide), vp_in_nI (by omega) (by decide), fun M4 e4 => ⟨vp_in_nI (by omega) (by decide), fun M5 e5 => hrec _ ⟨j + 1, by omega, ?_⟩⟩⟩⟩
    · rw [tI_le, g1, g2] at z; omega
    · rw [e5, e4, nI_clamp (by omega), nI_clamp (by omega), nI_inc, ms_at, mu_ms, mu_ms, rvF_s hjn]
  · rw [rvF_0, ms_self]; rfl
theorem op_about (hI : Inv M) : Op_about Inv M := by
  have eT := hI.there
  by_cases h0 : M 39 5 = 0
  · refine op_run (r := -1000002) (M1 := M) (M2 := M) (fun Φ h => ?_) ⟨rfl, rfl⟩ (fun Φ h => ?_) hI ⟨rfl, rfl⟩
    · exact ⟨fun _ => h, fun z => absurd (eT.trans h0) z⟩
    · exact ⟨fun _ => h, fun z => absurd h0 z⟩
  obtain ⟨hV, hT1⟩ := hI.vb h0
  have hR := hI.bike.1
  obtain ⟨eac, s, p, hs, hp, es, ep, -, hrec⟩ := hI.acts
  have r3 := hR.1.2.2.1
  have r7 := hR.1.2.2.2.2.2.2.1
  have a3 := hV.1.2.2.1
  obtain ⟨n, en, hn⟩ := ix_nI (b := M 44 3) (by omega)
  have hn1 : 1 ≤ n := by omega
  have hn6 : n ≤ 6 := by omega
  refine op_run (r := M 44 3 - M 44 6) (M1 := mu (ms (KM M p s) 12 (abF (M 12) n ((n + 1) / 2))) 7 7 (M 7 3 - M 7 7)) (M2 := ms (RM (mu (ms (KM M p s) 12 (abF (M 12) n ((n + 1) / 2))) 7 7 (M 7 3 - M 7 7)) s) 44 (abV (M 44) n)) (fun Φ h => ?_) ⟨rfl, rfl⟩ (fun Φ h => ?_) ?_ ⟨rfl, rfl⟩
  · refine ⟨fun z => absurd (eT.symm.trans z) h0, fun _ => v_keep hp hs ep (eac.trans es) _ ?_⟩
    refine v_turnAbout (M := KM M p s) 7 (r3.trans en) hn1 hn6 _ ?_
    have : mu (ms (KM M p s) 12 (abF (M 12) n ((n + 1) / 2))) 7 7 (M 7 3 - M 7 7) 7 7 = M 44 3 - M 44 6 := by
      show M 7 3 - M 7 7 = _
      rw [r3, r7]
    rw [← this] at h
    exact h
  · refine ⟨fun z => absurd z h0, fun _ => vr_know (M := mu (ms (KM M p s) 12 (abF (M 12) n ((n + 1) / 2))) 7 7 (M 7 3 - M 7 7)) hs es _ ?_⟩
    refine vr_turnAbout (M := RM (mu (ms (KM M p s) 12 (abF (M 12) n ((n + 1) / 2))) 7 7 (M 7 3 - M 7 7)) s) 44 en hn1 hn6 _ ?_
    have : abV (M 44) n 6 = M 44 3 - M 44 6 := by unfold abV; rw [pk_us, en]
    rw [← this] at h
    exact h
  · have hm := about_bike hR hV en hn1 hn6
    exact ⟨hI.1, hI.2.1, hI.2.2.1, ⟨hm.1, eT, Or.inl ⟨hT1, hm.2.1⟩⟩, act_acts hI.acts hR hV hm.2.2 hT1 ep es hp hs, hI.2.2.2.2.2⟩
end About
