/-! image, restore -/
def tf1 (k q i : Nat) (M : Mm) : Mm := mu M k i (M q i)
def TF (k q : Nat) (M : Mm) : Mm := mcp (mcp (mcp (mcp (mcp (tf1 k q 8 (tf1 k q 7 (tf1 k q 6 (tf1 k q 5 (tf1 k q 4 (tf1 k q 3 (tf1 k q 2 (tf1 k q 1 (tf1 k q 0 M))))))))) (q + 1) (k + 1) 0 0 3) (q + 2) (k + 2) 0 0 6) (q + 3) (k + 3) 0 0 6) (q + 4) (k + 4) 0 0 6) (q + 5) (k + 5) 0 0 6
theorem v_takeFrom {M : Mm} (k q : Nat) (h01 : M q 0 = 0 ∨ M q 0 = 1) : RunV (S_Bike_takeFrom k q M) (TF k q M) := by
  intro Φ h
  refine ⟨h01, ?_⟩
  rintro _ rfl _ rfl _ rfl _ rfl _ rfl _ rfl _ rfl _ rfl _ rfl _ rfl _ rfl _ rfl _ rfl _ rfl
  exact h
theorem relB_copy {f f' rg rg' kd kd' th th' on on' sl sl' v v' : Nat → Int32} (hR : RelB f rg kd th on sl v) (hV : VB v) (hf : f' 1 = f 1 ∧ f' 2 = f 2 ∧ f' 3 = f 3 ∧ f' 4 = f 4 ∧ f' 5 = f 5 ∧ f' 6 = f 6 ∧ f' 7 = f 7 ∧ f' 8 = f 8) (h1 : ∀ i, i < 3 → rg' i = rg i) (h2 : ∀ i, i < 6 → kd' i = kd i) (h3 : ∀ i, i < 6 → th' i = th i) (h4 : ∀ i, i < 6 → on' i = on i) (h5 : ∀ i, i < 6 → sl' i = sl i) (hv : ∀ j, j < 35 → v' j = v j) : RelB f' rg' kd' th' on' sl' v' ∧ VB v' := by
  refine ⟨?_, hV.congr hv⟩
  obtain ⟨c1, c2, c3⟩ := hV.cb
  obtain ⟨⟨r1, r2, r3, r4, r5, r6, r7, r8⟩, hr, hc, hs⟩ := hR
  obtain ⟨f1, f2, f3, f4, f5, f6, f7, f8⟩ := hf
  have e0 := hv 0 (by decide); have e1 := hv 1 (by decide); have e2 := hv 2 (by decide); have e3 := hv 3 (by decide)
  have e4 := hv 4 (by decide); have e5 := hv 5 (by decide); have e6 := hv 6 (by decide); have e7 := hv 7 (by decide)
  unfold RelB
  rw [e0, e1, e2, e3, e4, e5, e6, e7, f1, f2, f3, f4, f5, f6, f7, f8]
  refine ⟨⟨r1, r2, r3, r4, r5, r6, r7, r8⟩, fun i hi => ?_, fun i hi => ?_, fun i hi => ?_⟩
  · rw [hv _ (by omega), h1 i (by omega)]; exact hr i hi
  · rw [hv _ (by omega), hv _ (by omega), hv _ (by omega), h2 i (by omega), h3 i (by omega), h4 i (by omega)]; exact hc i hi
  · rw [hv _ (by omega), h5 i (by omega)]; exact hs i hi
theorem cpy00 (f g : Nat → Int32) {n : Nat} : ∀ i, i < n → va_cpy f g 0 0 n i = f i := fun i hi => by
  rw [cpy_in _ _ (by omega) (by omega)]; exact congrArg f (by omega)
theorem IImg.congr {f rg kd th on sl v v' : Nat → Int32} {k : Int32} (h : IImg f rg kd th on sl v k) (hv : ∀ j, j < 35 → v' j = v j) : IImg f rg kd th on sl v' k := by
  refine ⟨h.1, ?_⟩
  rcases h.2 with ⟨e, hR, hV⟩ | e
  · have := relB_copy hR hV ⟨rfl, rfl, rfl, rfl, rfl, rfl, rfl, rfl⟩ (fun _ _ => rfl) (fun _ _ => rfl) (fun _ _ => rfl) (fun _ _ => rfl) (fun _ _ => rfl) hv
    exact Or.inl ⟨e, this.1, this.2⟩
  · exact Or.inr e
section Image
variable {M : Mm}
theorem vr_imageLoop {k : Nat} (hk : k < 2) : Run (fun Φ => ∃ n, lp (D_R_image_24 Φ) n (nI k, 0, M)) 1 (mu (ms M 47 (va_cpy (M 44) (M 47) 0 (35 * k) 35)) 48 k 1) := by
  intro Φ h
  refine lp_ex (fun q (a : Int32 × Int32 × Mm) => ∃ j, j + q = 35 ∧ a = (nI k, nI j, ms M 47 (va_cpy (M 44) (M 47) 0 (35 * k) j))) ?_ ?_ (i := 35) ⟨0, by omega, ?_⟩
  · rintro a ⟨j, hj, rfl⟩ rec
    obtain rfl : j = 35 := by omega
    rw [D_R_image_24, nI_clamp (n := k) (by omega)]
    refine ⟨fun _ => ⟨vp_in_nI hk (by decide), fun M1 e => ?_⟩, fun z => absurd (by decide) z⟩
    rw [e, show vp_nar .boolean 1 = 1 by decide]; exact h
  · rintro q a ⟨j, hj, rfl⟩ rec hrec
    rw [D_R_image_24, ix35]
    refine ⟨fun z => absurd z (nle 35 (by omega) (by omega)), fun _ => ?_⟩
    refine ⟨vp_in_nI (by omega) (by decide), vp_in_nI (by omega) (by decide), fun M4 e => hrec _ ⟨j + 1, by omega, ?_⟩⟩
    rw [e, nI_clamp (by omega), nI_clamp (by omega), nI_inc, mu_ms, ← cpy_s _ _ _ _ j, Nat.zero_add]
    rfl
  · rw [cpy_0, ms_self]; rfl
theorem vr_restoreLoop {k : Nat} (hk : k < 2) : Run (fun Φ => ∃ n, lp (D_R_restore_26 Φ) n (nI k, 0, M)) 1 (mu (ms M 44 (va_cpy (M 47) (M 44) (35 * k) 0 35)) 39 9 0) := by
  intro Φ h
  refine lp_ex (fun q (a : Int32 × Int32 × Mm) => ∃ j, j + q = 35 ∧ a = (nI k, nI j, ms M 44 (va_cpy (M 47) (M 44) (35 * k) 0 j))) ?_ ?_ (i := 35) ⟨0, by omega, ?_⟩
  · rintro a ⟨j, hj, rfl⟩ rec
    obtain rfl : j = 35 := by omega
    exact ⟨fun _ => fun M1 e => by rw [e]; exact h, fun z => absurd (by decide) z⟩
  · rintro q a ⟨j, hj, rfl⟩ rec hrec
    rw [D_R_restore_26, ix35]
    refine ⟨fun z => absurd z (nle 35 (by omega) (by omega)), fun _ => ?_⟩
    refine ⟨vp_in_nI (by omega) (by decide), vp_in_nI (by omega) (by decide), fun M4 e => hrec _ ⟨j + 1, by omega, ?_⟩⟩
    rw [e, nI_clamp (by omega), nI_clamp (by omega), nI_inc, mu_ms, ← cpy_s _ _ _ _ j, Nat.zero_add]
    rfl
  · rw [cpy_0, ms_self]; rfl
theorem two {a : Int32} (h : ¬ wi a 0 1 = 0) : a = nI 0 ∨ a = nI 1 := by
  have hb := wi_1 h
  rw [show (0 : Int32).toInt = 0 by decide, show (1 : Int32).toInt = 1 by decide] at hb
  rcases Int.lt_or_le a.toInt 1 with q | q
  · exact Or.inl (nI_of_toInt (by omega))
  · exact Or.inr (nI_of_toInt (by omega))
theorem Inv.there01 (hI : Inv M) : M 7 0 = 0 ∨ M 7 0 = 1 := by
  rw [hI.there]
  rcases hI.bike.2.2 with ⟨e, -⟩ | ⟨e, -⟩
  · exact Or.inr e
  · exact Or.inl e
theorem op_image (hI : Inv M) : Op_image Inv M := by
  intro a
  have eT := hI.there
  by_cases hw : wi a 0 1 = 0
  · refine op_run (r := -1000001) (M1 := M) (M2 := M) (fun Φ h => ?_) ⟨rfl, rfl⟩ (fun Φ h => ?_) hI ⟨rfl, rfl⟩
    · exact v_within M a _ _ _ ⟨fun _ => h, fun n => absurd hw n⟩
    · exact v_in M a _ _ _ ⟨fun _ => h, fun n => absurd hw n⟩
  by_cases h0 : M 39 5 = 0
  · refine op_run (r := -1000002) (M1 := M) (M2 := M) (fun Φ h => ?_) ⟨rfl, rfl⟩ (fun Φ h => ?_) hI ⟨rfl, rfl⟩
    · exact v_within M a _ _ _ ⟨fun n => absurd n hw, fun _ => ⟨fun _ => h, fun z => absurd (eT.trans h0) z⟩⟩
    · exact v_in M a _ _ _ ⟨fun n => absurd n hw, fun _ => ⟨fun _ => h, fun z => absurd h0 z⟩⟩
  obtain ⟨hV, hT1⟩ := hI.vb h0
  have hR := hI.bike.1
  have h01 := hI.there01
  have e70 : M 7 0 = 1 := eT.trans hT1
  rcases two hw with rfl | rfl
  · refine op_run (r := 1) (M1 := TF 20 7 M) (M2 := mu (ms (TF 20 7 M) 47 (va_cpy (M 44) (M 47) 0 0 35)) 48 0 1) (fun Φ h => ?_) ⟨rfl, rfl⟩ (fun Φ h => ?_) ?_ ⟨rfl, rfl⟩
    · exact v_within M _ _ _ _ ⟨fun n => absurd n hw, fun _ => ⟨fun z => absurd (eT.symm.trans z) h0, fun _ => Or.inl ⟨rfl, v_takeFrom 20 7 h01 _ h⟩⟩⟩
    · exact v_in _ _ _ _ _ ⟨fun n => absurd n hw, fun _ => ⟨fun z => absurd z h0, fun _ => vr_imageLoop (M := TF 20 7 M) (k := 0) (by decide) _ h⟩⟩
    · have hc := relB_copy (f' := TF 20 7 M 20) (v' := va_cpy (M 44) (M 47) 0 0 35) hR hV ⟨rfl, rfl, rfl, rfl, rfl, rfl, rfl, rfl⟩ (cpy00 (M 8) (M 21) (n := 3)) (cpy00 (M 9) (M 22) (n := 6)) (cpy00 (M 10) (M 23) (n := 6)) (cpy00 (M 11) (M 24) (n := 6)) (cpy00 (M 12) (M 25) (n := 6)) (cpy00 (M 44) (M 47) (n := 35))
      refine ⟨hI.1, hI.2.1, hI.2.2.1, hI.bike, hI.acts, ⟨⟨e70, Or.inl ⟨rfl, hc.1, hc.2⟩⟩, ?_⟩, hI.2.2.2.2.2.2.1, hI.2.2.2.2.2.2.2.1, fun _ => hT1⟩
      have := hI.2.2.2.2.2.1.2
      refine IImg.congr this (fun j hj => ?_)
      show va_cpy (M 44) (M 47) 0 0 35 (35 + j) = M 47 (35 + j)
      rw [cpy_out _ _ (by omega)]
  · refine op_run (r := 1) (M1 := TF 26 7 M) (M2 := mu (ms (TF 26 7 M) 47 (va_cpy (M 44) (M 47) 0 35 35)) 48 1 1) (fun Φ h => ?_) ⟨rfl, rfl⟩ (fun Φ h => ?_) ?_ ⟨rfl, rfl⟩
    · exact v_within M _ _ _ _ ⟨fun n => absurd n hw, fun _ => ⟨fun z => absurd (eT.symm.trans z) h0, fun _ => Or.inr ⟨rfl, v_takeFrom 26 7 h01 _ h⟩⟩⟩
    · exact v_in _ _ _ _ _ ⟨fun n => absurd n hw, fun _ => ⟨fun z => absurd z h0, fun _ => vr_imageLoop (M := TF 26 7 M) (k := 1) (by decide) _ h⟩⟩
    · have hc := relB_copy (f' := TF 26 7 M 26) (v' := fun j => va_cpy (M 44) (M 47) 0 35 35 (35 + j)) hR hV ⟨rfl, rfl, rfl, rfl, rfl, rfl, rfl, rfl⟩ (cpy00 (M 8) (M 27) (n := 3)) (cpy00 (M 9) (M 28) (n := 6)) (cpy00 (M 10) (M 29) (n := 6)) (cpy00 (M 11) (M 30) (n := 6)) (cpy00 (M 12) (M 31) (n := 6)) (fun j hj => by
        show va_cpy (M 44) (M 47) 0 35 35 (35 + j) = M 44 j
        rw [cpy_in _ _ (by omega) (by omega)]; exact congrArg (M 44) (by omega))
      refine ⟨hI.1, hI.2.1, hI.2.2.1, hI.bike, hI.acts, ⟨?_, ⟨e70, Or.inl ⟨rfl, hc.1, hc.2⟩⟩⟩, hI.2.2.2.2.2.2.1, hI.2.2.2.2.2.2.2.1, fun _ => hT1⟩
      have := hI.2.2.2.2.2.1.1
      refine IImg.congr this (fun j hj => ?_)
      show va_cpy (M 44) (M 47) 0 35 35 j = M 47 j
      rw [cpy_out _ _ (by omega)]
theorem op_restore (hI : Inv M) : Op_restore Inv M := by
  intro a
  by_cases hw : wi a 0 1 = 0
  · refine op_run (r := -1000001) (M1 := M) (M2 := M) (fun Φ h => ?_) ⟨rfl, rfl⟩ (fun Φ h => ?_) hI ⟨rfl, rfl⟩
    · exact v_within M a _ _ _ ⟨fun _ => h, fun n => absurd hw n⟩
    · exact v_in M a _ _ _ ⟨fun _ => h, fun n => absurd hw n⟩
  have kp := hI.2.2.2.2.2.2.2.2
  obtain ⟨i0, i1⟩ := hI.2.2.2.2.2.1
  obtain ⟨eac, s, p, hs, hp, es, ep, -, hrec⟩ := hI.acts
  rcases two hw with rfl | rfl
  · by_cases h0 : M 48 0 = 0
    · refine op_run (r := -1000002) (M1 := M) (M2 := M) (fun Φ h => ?_) ⟨rfl, rfl⟩ (fun Φ h => ?_) hI ⟨rfl, rfl⟩
      · exact v_within M _ _ _ _ ⟨fun n => absurd n hw, fun _ => Or.inl ⟨rfl, fun _ => h, fun z => absurd (i0.1.trans h0) z⟩⟩
      · exact v_in M _ _ _ _ ⟨fun n => absurd n hw, fun _ => ⟨vp_in_nI (by decide) (by decide), fun _ => h, fun z => absurd h0 z⟩⟩
    · rcases i0.2 with ⟨e1, hR, hV⟩ | e1
      case inr => exact absurd e1 h0
      have hT1 := kp (Or.inl e1)
      have e20 := i0.1.trans e1
      refine op_run (r := 1) (M1 := mu (TF 7 20 M) 32 1 0) (M2 := mu (ms (mu (TF 7 20 M) 32 1 0) 44 (va_cpy (M 47) (M 44) 0 0 35)) 39 9 0) (fun Φ h => ?_) ⟨rfl, rfl⟩ (fun Φ h => ?_) ?_ ⟨rfl, rfl⟩
      · refine v_within M _ _ _ _ ⟨fun n => absurd n hw, fun _ => Or.inl ⟨rfl, fun z => absurd (i0.1.symm.trans z) h0, fun _ => v_takeFrom 7 20 (Or.inr e20) _ (fun M6 e6 => ?_)⟩⟩
        rw [e6]; exact h
      · exact v_in _ _ _ _ _ ⟨fun n => absurd n hw, fun _ => ⟨vp_in_nI (by decide) (by decide), fun z => absurd z h0, fun _ => vr_restoreLoop (M := mu (TF 7 20 M) 32 1 0) (k := 0) (by decide) _ h⟩⟩
      · have hc := relB_copy (f' := TF 7 20 M 7) (v' := va_cpy (M 47) (M 44) 0 0 35) hR hV ⟨rfl, rfl, rfl, rfl, rfl, rfl, rfl, rfl⟩ (cpy00 (M 21) (M 8) (n := 3)) (cpy00 (M 22) (M 9) (n := 6)) (cpy00 (M 23) (M 10) (n := 6)) (cpy00 (M 24) (M 11) (n := 6)) (cpy00 (M 25) (M 12) (n := 6)) (cpy00 (M 47) (M 44) (n := 35))
        exact ⟨hI.1, hI.2.1, hI.2.2.1, ⟨hc.1, e20.trans hT1.symm, Or.inl ⟨hT1, hc.2⟩⟩, ⟨rfl, 0, p, by omega, hp, rfl, ep, fun z => absurd z (by omega), fun i hi => absurd hi (by omega)⟩, hI.2.2.2.2.2⟩
  · by_cases h0 : M 48 1 = 0
    · refine op_run (r := -1000002) (M1 := M) (M2 := M) (fun Φ h => ?_) ⟨rfl, rfl⟩ (fun Φ h => ?_) hI ⟨rfl, rfl⟩
      · exact v_within M _ _ _ _ ⟨fun n => absurd n hw, fun _ => Or.inr ⟨rfl, fun _ => h, fun z => absurd (i1.1.trans h0) z⟩⟩
      · exact v_in M _ _ _ _ ⟨fun n => absurd n hw, fun _ => ⟨vp_in_nI (by decide) (by decide), fun _ => h, fun z => absurd h0 z⟩⟩
    · rcases i1.2 with ⟨e1, hR, hV⟩ | e1
      case inr => exact absurd e1 h0
      have hT1 := kp (Or.inr e1)
      have e20 := i1.1.trans e1
      refine op_run (r := 1) (M1 := mu (TF 7 26 M) 32 1 0) (M2 := mu (ms (mu (TF 7 26 M) 32 1 0) 44 (va_cpy (M 47) (M 44) 35 0 35)) 39 9 0) (fun Φ h => ?_) ⟨rfl, rfl⟩ (fun Φ h => ?_) ?_ ⟨rfl, rfl⟩
      · refine v_within M _ _ _ _ ⟨fun n => absurd n hw, fun _ => Or.inr ⟨rfl, fun z => absurd (i1.1.symm.trans z) h0, fun _ => v_takeFrom 7 26 (Or.inr e20) _ (fun M6 e6 => ?_)⟩⟩
        rw [e6]; exact h
      · exact v_in _ _ _ _ _ ⟨fun n => absurd n hw, fun _ => ⟨vp_in_nI (by decide) (by decide), fun z => absurd z h0, fun _ => vr_restoreLoop (M := mu (TF 7 26 M) 32 1 0) (k := 1) (by decide) _ h⟩⟩
      · have hc := relB_copy (f' := TF 7 26 M 7) (v' := va_cpy (M 47) (M 44) 35 0 35) hR hV ⟨rfl, rfl, rfl, rfl, rfl, rfl, rfl, rfl⟩ (cpy00 (M 27) (M 8) (n := 3)) (cpy00 (M 28) (M 9) (n := 6)) (cpy00 (M 29) (M 10) (n := 6)) (cpy00 (M 30) (M 11) (n := 6)) (cpy00 (M 31) (M 12) (n := 6)) (fun j hj => by
          rw [cpy_in _ _ (by omega) (by omega)]; rfl)
        exact ⟨hI.1, hI.2.1, hI.2.2.1, ⟨hc.1, e20.trans hT1.symm, Or.inl ⟨hT1, hc.2⟩⟩, ⟨rfl, 0, p, by omega, hp, rfl, ep, fun z => absurd z (by omega), fun i hi => absurd hi (by omega)⟩, hI.2.2.2.2.2⟩
end Image
