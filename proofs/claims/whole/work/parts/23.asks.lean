/-! calls that only ask: of RINGS, COGS, GEARS, PIECES -/
section Parts
variable {M : Mm}
theorem Inv.bike (hI : Inv M) : IBike (M 7) (M 8) (M 9) (M 10) (M 11) (M 12) (M 44) (M 39 5) := hI.2.2.2.1
/-- no BIKE: no COG, no RING, no PIECE -/
theorem IBike.none {f rg kd th on sl v : Nat → Int32} {t : Int32} (h : IBike f rg kd th on sl v t) (h0 : ¬ t = 1) : ∀ i, i < 8 → v i = 0 := by
  rcases h.2.2 with ⟨e, -⟩ | ⟨-, h⟩
  · exact absurd e h0
  · exact h
theorem IBike.good {f rg kd th on sl v : Nat → Int32} {t : Int32} (h : IBike f rg kd th on sl v t) (h1 : 0 < (v 2).toInt ∨ 0 < (v 1).toInt ∨ 0 < (v 3).toInt ∨ ¬ t = 0) : VB v := by
  rcases h.2.2 with ⟨-, h⟩ | ⟨e, h⟩
  · exact h
  · have e1 := h 1 (by decide); have e2 := h 2 (by decide); have e3 := h 3 (by decide)
    have e0 : (0 : Int32).toInt = 0 := by decide
    rw [e1, e2, e3, e0] at h1
    rcases h1 with h1 | h1 | h1 | h1
    · omega
    · omega
    · omega
    · exact absurd e h1
/-- a number that is within 0 and one less than n -/
theorem wi_nI {a n : Int32} (hn : 0 ≤ n.toInt) (h : ¬ wi a 0 (n - 1) = 0) : ∃ i : Nat, a = nI i ∧ (i : Int) < n.toInt := by
  have hb := wi_1 h
  have e0 : (0 : Int32).toInt = 0 := by decide
  rw [sub1 hn, e0] at hb
  exact ⟨a.toInt.toNat, nI_of_toInt (by omega), by omega⟩
theorem op_ring (hI : Inv M) : Op_ring Inv M := by
  intro a
  have hB := hI.bike
  obtain ⟨c1, c2, c3⟩ := hB.cb
  obtain ⟨⟨e1, e2, e3, e4, e5, e6, e7, e8⟩, hr, hc, hs⟩ := hB.1
  by_cases hw : wi a 0 (M 44 1 - 1) = 0
  · refine op_pure hI (S := S_ring M a) (v := -1000001) (fun Φ h => ?_) (SR := S_R_ring M a) (fun Φ h => ?_) (SR' := fun M => S_R_ring M a) rfl
    · exact v_hasRing 7 M a _ ⟨fun _ => h, fun n => absurd (by rw [e1]; exact hw) n⟩
    · exact v_in M _ _ _ _ ⟨fun _ => h, fun n => absurd hw n⟩
  · obtain ⟨i, rfl, hi⟩ := wi_nI c1.1 hw
    have e : (8 : Int32) + nI i = nI (8 + i) := nI8 8 rfl
    refine op_pure hI (S := S_ring M (nI i)) (v := M 44 (8 + i)) (fun Φ h => ?_) (SR := S_R_ring M (nI i)) (fun Φ h => ?_) (SR' := fun M => S_R_ring M (nI i)) rfl
    · refine v_hasRing 7 M _ _ ⟨fun n => absurd n (by rw [e1]; exact hw), fun _ => ⟨vp_in_nI (by omega) (by decide), ?_⟩⟩
      rw [nI_clamp (by omega), hr i hi]; exact h
    · refine v_in M _ _ _ _ ⟨fun n => absurd n hw, fun _ => ?_⟩
      rw [e, nI_clamp (by omega)]
      exact ⟨vp_in_nI (by omega) (by decide), h⟩
theorem op_kind (hI : Inv M) : Op_kind Inv M := by
  intro a
  have hB := hI.bike
  obtain ⟨c1, c2, c3⟩ := hB.cb
  obtain ⟨⟨e1, e2, e3, e4, e5, e6, e7, e8⟩, hr, hc, hs⟩ := hB.1
  by_cases hw : wi a 0 (M 44 2 - 1) = 0
  · refine op_pure hI (S := S_kind M a) (v := -1000001) (fun Φ h => ?_) (SR := S_R_kind M a) (fun Φ h => ?_) (SR' := fun M => S_R_kind M a) rfl
    · exact v_hasCog 7 M a _ ⟨fun _ => h, fun n => absurd (by rw [e2]; exact hw) n⟩
    · exact vr_isCog M _ _ ⟨fun _ => h, fun n => absurd hw n⟩
  · obtain ⟨i, rfl, hi⟩ := wi_nI c2.1 hw
    have e : (11 : Int32) + nI i = nI (11 + i) := nI8 11 rfl
    refine op_pure hI (S := S_kind M (nI i)) (v := M 44 (11 + i)) (fun Φ h => ?_) (SR := S_R_kind M (nI i)) (fun Φ h => ?_) (SR' := fun M => S_R_kind M (nI i)) rfl
    · refine v_hasCog 7 M _ _ ⟨fun n => absurd n (by rw [e2]; exact hw), fun _ => ⟨vp_in_nI (by omega) (by decide), ?_⟩⟩
      rw [nI_clamp (by omega), (hc i hi).1]; exact h
    · refine vr_isCog M _ _ ⟨fun n => absurd n hw, fun _ => ?_⟩
      rw [e, nI_clamp (by omega)]
      exact ⟨vp_in_nI (by omega) (by decide), h⟩
theorem op_rounds (hI : Inv M) : Op_rounds Inv M := by
  intro a
  have hB := hI.bike
  have hC := hB.cb
  have hR := hB.1
  by_cases hw : ig (M 44) a = 0
  · refine op_pure hI (S := S_rounds M a) (v := -1000001) (fun Φ h => ?_) (SR := S_R_rounds M a) (fun Φ h => ?_) (SR' := fun M => S_R_rounds M a) rfl
    · exact v_hasGear hC hR.1.1 hR.1.2.1 a _ ⟨fun _ => h, fun n => absurd hw n⟩
    · exact vr_isGear M a _ ⟨fun _ => h, fun n => absurd hw n⟩
  · obtain ⟨r, c, hr, hc, hr3, hc6, er, ec⟩ := gear_ix hC hw
    have hV := hB.good (Or.inl (by omega))
    refine op_pure hI (S := S_rounds M a) (v := tnv (M 44) r c) (fun Φ h => ?_) (SR := S_R_rounds M a) (fun Φ h => ?_) (SR' := fun M => S_R_rounds M a) rfl
    · exact v_hasGear hC hR.1.1 hR.1.2.1 a _ ⟨fun n => absurd n hw, fun _ => v_turnsOf hR hV hw hr hc hr3 hc6 er ec _ h⟩
    · exact vr_isGear M a _ ⟨fun n => absurd n hw, fun _ => vr_turnsOf hV hr hc hr3 hc6 er ec _ h⟩
theorem op_load (hI : Inv M) : Op_load Inv M := by
  intro a s
  have hB := hI.bike
  have hC := hB.cb
  have hR := hB.1
  by_cases hw : ig (M 44) a = 0
  · refine op_pure hI (S := S_load M a s) (v := -1000001) (fun Φ h => ?_) (SR := S_R_load M a s) (fun Φ h => ?_) (SR' := fun M => S_R_load M a s) rfl
    · exact v_hasGear hC hR.1.1 hR.1.2.1 a _ ⟨fun _ => h, fun n => absurd hw n⟩
    · exact vr_isGear M a _ ⟨fun _ => h, fun n => absurd hw n⟩
  · obtain ⟨r, c, hr, hc, hr3, hc6, er, ec⟩ := gear_ix hC hw
    have hV := hB.good (Or.inl (by omega))
    by_cases hs : wi s 0 9 = 0
    · refine op_pure hI (S := S_load M a s) (v := -1000001) (fun Φ h => ?_) (SR := S_R_load M a s) (fun Φ h => ?_) (SR' := fun M => S_R_load M a s) rfl
      · exact v_hasGear hC hR.1.1 hR.1.2.1 a _ ⟨fun n => absurd n hw, fun _ => v_within M _ _ _ _ ⟨fun _ => h, fun n => absurd hs n⟩⟩
      · exact vr_isGear M a _ ⟨fun n => absurd n hw, fun _ => v_in M _ _ _ _ ⟨fun _ => h, fun n => absurd hs n⟩⟩
    · refine op_pure hI (S := S_load M a s) (v := ldv (M 44) r c s) (fun Φ h => ?_) (SR := S_R_load M a s) (fun Φ h => ?_) (SR' := fun M => S_R_load M a s) rfl
      · exact v_hasGear hC hR.1.1 hR.1.2.1 a _ ⟨fun n => absurd n hw, fun _ => v_within M _ _ _ _ ⟨fun n => absurd n hs, fun _ => v_loadOf hR hV hw hr hc hr3 hc6 er ec _ h⟩⟩
      · exact vr_isGear M a _ ⟨fun n => absurd n hw, fun _ => v_in M _ _ _ _ ⟨fun n => absurd n hs, fun _ => vr_loadOf hV hr hc hr3 hc6 er ec _ h⟩⟩
/-- may a COG be left; how many TURNS onto it -/
def mlv (v : Nat → Int32) (c : Nat) (p : Int32) : Int32 := if v (11 + c) = 5 ∧ ¬ irm p 2 = 0 then 0 else 1
def tov (v : Nat → Int32) (c : Nat) : Int32 := if v (11 + c) = 3 then 1 else 3
theorem v_mayLeave {k : Nat} {v : Nat → Int32} {c : Nat} (hk : M (k + 2) c = v (11 + c)) (hc : c < 6) (p : Int32) : Val (S_Bike_mayLeave k M (nI c) p) (mlv v c p) := by
  intro Φ h
  unfold S_Bike_mayLeave
  rw [nI_clamp (by omega), hk]
  unfold mlv at h
  refine ⟨vp_in_nI hc (by decide), fun h5 => ⟨fun h2 => ?_, fun h2 => ?_⟩, fun h5 => ?_⟩
  · rw [if_neg (fun q => q.2 h2)] at h; exact h
  · rw [if_pos ⟨h5, h2⟩] at h; exact h
  · rw [if_neg (fun q => h5 q.1)] at h; exact h
theorem v_turnsOnto {k : Nat} {v : Nat → Int32} {c : Nat} (hk : M (k + 2) c = v (11 + c)) (hc : c < 6) : Val (S_Bike_turnsOnto k M (nI c)) (tov v c) := by
  intro Φ h
  unfold S_Bike_turnsOnto
  rw [nI_clamp (by omega), hk]
  unfold tov at h
  refine ⟨vp_in_nI hc (by decide), fun h5 => ?_, fun h5 => ?_⟩
  · rw [if_pos h5] at h; exact h
  · rw [if_neg h5] at h; exact h
theorem vr_canLeave {k : Nat} {c : Nat} (hc : c < 6) (p : Int32) : Val (S_R_canLeave k M (nI c) p) (mlv (M k) c p) := by
  intro Φ h
  have e11 : (11 : Int32) + nI c = nI (11 + c) := nI8 11 rfl
  unfold S_R_canLeave
  rw [e11, nI_clamp (by omega)]
  unfold mlv at h
  refine ⟨vp_in_nI (by omega) (by decide), fun h5 => ⟨fun h2 => ?_, fun h2 => ?_⟩, fun h5 => ?_⟩
  · rw [if_neg (fun q => q.2 h2)] at h; exact h
  · rw [if_pos ⟨h5, h2⟩] at h; exact h
  · rw [if_neg (fun q => h5 q.1)] at h; exact h
theorem vr_shiftOnto {k : Nat} {c : Nat} (hc : c < 6) : Val (S_R_shiftOnto k M (nI c)) (tov (M k) c) := by
  intro Φ h
  have e11 : (11 : Int32) + nI c = nI (11 + c) := nI8 11 rfl
  unfold S_R_shiftOnto
  rw [e11, nI_clamp (by omega)]
  unfold tov at h
  refine ⟨vp_in_nI (by omega) (by decide), fun h5 => ?_, fun h5 => ?_⟩
  · rw [if_pos h5] at h; exact h
  · rw [if_neg h5] at h; exact h
theorem op_cog (hI : Inv M) : Op_cog Inv M := by
  intro a w
  have hB := hI.bike
  obtain ⟨c1, c2, c3⟩ := hB.cb
  obtain ⟨⟨e1, e2, e3, e4, e5, e6, e7, e8⟩, hr, hc, hs⟩ := hB.1
  by_cases hw : wi a 0 (M 44 2 - 1) = 0
  · refine op_pure hI (S := S_cog M a w) (v := -1000001) (fun Φ h => ?_) (SR := S_R_cog M a w) (fun Φ h => ?_) (SR' := fun M => S_R_cog M a w) rfl
    · exact v_hasCog 7 M a _ ⟨fun _ => h, fun n => absurd (by rw [e2]; exact hw) n⟩
    · exact vr_isCog M _ _ ⟨fun _ => h, fun n => absurd hw n⟩
  · obtain ⟨i, rfl, hi⟩ := wi_nI c2.1 hw
    have hi6 : i < 6 := by omega
    obtain ⟨q1, q2, q3⟩ := hc i hi
    have e17 : (17 : Int32) + nI i = nI (17 + i) := nI8 17 rfl
    have e29 : (29 : Int32) + nI i = nI (29 + i) := nI8 29 rfl
    refine op_pure hI (S := S_cog M (nI i) w) (v := if w = 0 then M 44 (17 + i) else if w = 1 then M 44 (29 + i) else if w = 2 then tov (M 44) i else if w = 3 then (if mlv (M 44) i (M 44 6) = 0 then 0 else 1) else -1000001) (fun Φ h => ?_) (SR := S_R_cog M (nI i) w) (fun Φ h => ?_) (SR' := fun M => S_R_cog M (nI i) w) rfl
    · refine v_hasCog 7 M _ _ ⟨fun n => absurd n (by rw [e2]; exact hw), fun _ => ?_⟩
      rw [nI_clamp (by omega)]
      refine ⟨fun h0 => ?_, fun h0 => ⟨fun h1 => ?_, fun h1 => ⟨fun h2 => ?_, fun h2 => ⟨fun h3 => ?_, fun h3 => ?_⟩⟩⟩⟩
      · rw [if_pos h0] at h; rw [q2]; exact ⟨vp_in_nI hi6 (by decide), h⟩
      · rw [if_neg h0, if_pos h1] at h; rw [q3]; exact ⟨vp_in_nI hi6 (by decide), h⟩
      · rw [if_neg h0, if_neg h1, if_pos h2] at h
        exact v_turnsOnto (v := M 44) q1 hi6 _ h
      · rw [if_neg h0, if_neg h1, if_neg h2, if_pos h3] at h
        rw [e7]
        refine v_mayLeave (v := M 44) q1 hi6 _ _ ⟨fun q => ?_, fun q => ?_⟩
        · rw [if_pos q] at h; exact h
        · rw [if_neg q] at h; exact h
      · rw [if_neg h0, if_neg h1, if_neg h2, if_neg h3] at h; exact h
    · refine vr_isCog M _ _ ⟨fun n => absurd n hw, fun _ => ?_⟩
      rw [e17, e29, nI_clamp (by omega), nI_clamp (by omega)]
      refine ⟨fun h0 => ?_, fun h0 => ⟨fun h1 => ?_, fun h1 => ⟨fun h2 => ?_, fun h2 => ⟨fun h3 => ?_, fun h3 => ?_⟩⟩⟩⟩
      · rw [if_pos h0] at h; exact ⟨vp_in_nI (by omega) (by decide), h⟩
      · rw [if_neg h0, if_pos h1] at h; exact ⟨vp_in_nI (by omega) (by decide), h⟩
      · rw [if_neg h0, if_neg h1, if_pos h2] at h
        exact vr_shiftOnto hi6 _ h
      · rw [if_neg h0, if_neg h1, if_neg h2, if_pos h3] at h
        refine vr_canLeave hi6 _ _ ⟨fun q => ?_, fun q => ?_⟩
        · have q : mlv (M 44) i (M 44 6) = 0 := q
          rw [if_pos q] at h; exact h
        · have q : ¬ mlv (M 44) i (M 44 6) = 0 := q
          rw [if_neg q] at h; exact h
      · rw [if_neg h0, if_neg h1, if_neg h2, if_neg h3] at h; exact h
end Parts
