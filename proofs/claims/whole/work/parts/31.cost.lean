/-! as, cost, rank -/
theorem nI_inj {a b : Nat} (ha : a < 2 ^ 31) (hb : b < 2 ^ 31) : nI a = nI b ↔ a = b := by
  rw [tI_eq, nI_toInt ha, nI_toInt hb]; omega
/-- is one KIND another one, too -/
abbrev okK (κ w : Nat) : Prop := w = 0 ∨ w = κ ∨ (w = 1 ∧ 1 ≤ κ ∧ κ ≤ 3) ∨ (w = 4 ∧ κ = 5)
section Kinds
variable {M : Mm}
theorem Inv.tab (hI : Inv M) : ITab (M 60) (M 61) (M 62) := hI.2.2.2.2.2.2.2.1
theorem isk_hit {Φ : Int32 → Prop} {rec : Int32 × Int32 × Int32 → Prop} {w a s : Nat} (hs : s < 6) (ha : a ≤ 5) (h : w = a) (k : Φ 1) : D_isOfKind_4 M Φ rec (nI w, nI a, nI s) := by
  refine ⟨fun z => absurd z (nle 6 hs (by decide)), fun _ => v_within M _ _ _ _ ⟨fun z => ?_, fun _ => ⟨fun _ => k, fun z => absurd (by rw [h]) z⟩⟩⟩
  have := wi_0 z
  rw [nI_toInt (by omega), show (0 : Int32).toInt = 0 by decide, show (5 : Int32).toInt = 5 by decide] at this
  omega
theorem isk_on {Φ : Int32 → Prop} {rec : Int32 × Int32 × Int32 → Prop} {w a s : Nat} (hs : s < 6) (ha : a ≤ 5) (hw : w ≤ 5) (h : ¬ w = a) (k : rec (nI w, M 60 a, nI (s + 1))) : D_isOfKind_4 M Φ rec (nI w, nI a, nI s) := by
  refine ⟨fun z => absurd z (nle 6 hs (by decide)), fun _ => v_within M _ _ _ _ ⟨fun z => ?_, fun _ => ⟨fun z => ?_, fun _ => ⟨vp_in_nI (by omega) (by decide), ?_⟩⟩⟩⟩
  · have := wi_0 z
    rw [nI_toInt (by omega), show (0 : Int32).toInt = 0 by decide, show (5 : Int32).toInt = 5 by decide] at this
    omega
  · exact absurd ((nI_inj (by omega) (by omega)).mp z).symm h
  · rw [nI_clamp (by omega), nI_inc]; exact k
theorem isk_no {Φ : Int32 → Prop} {rec : Int32 × Int32 × Int32 → Prop} {w s : Nat} (hs : s < 6) (k : Φ 0) : D_isOfKind_4 M Φ rec (nI w, -1000000, nI s) :=
  ⟨fun z => absurd z (nle 6 hs (by decide)), fun _ => v_within M _ _ _ _ ⟨fun _ => k, fun z => absurd (by decide) z⟩⟩
theorem isk_0 (hI : Inv M) {Φ : Int32 → Prop} {w s : Nat} (hs : s < 5) (hw : w ≤ 5) (k : Φ (if okK 0 w then 1 else 0)) : lp (D_isOfKind_4 M Φ) 2 (nI w, nI 0, nI s) := by
  by_cases h : w = 0
  · exact isk_hit (by omega) (by omega) h (by rw [if_pos (by unfold okK; omega)] at k; exact k)
  · refine isk_on (by omega) (by omega) hw h ?_
    have e : M 60 0 = -1000000 := by rw [hI.tab.1]; rfl
    rw [e]
    exact isk_no (by omega) (by rw [if_neg (by unfold okK; omega)] at k; exact k)
theorem isk_1 (hI : Inv M) {Φ : Int32 → Prop} {w s : Nat} (hs : s < 4) (hw : w ≤ 5) (k : Φ (if okK 1 w then 1 else 0)) : lp (D_isOfKind_4 M Φ) 3 (nI w, nI 1, nI s) := by
  by_cases h : w = 1
  · exact isk_hit (by omega) (by omega) h (by rw [if_pos (by unfold okK; omega)] at k; exact k)
  · refine isk_on (by omega) (by omega) hw h ?_
    have e : M 60 1 = nI 0 := by rw [hI.tab.1]; rfl
    rw [e]
    refine isk_0 hI (by omega) hw ?_
    by_cases q : okK 0 w
    · rw [if_pos q]; rw [if_pos (by unfold okK at *; omega)] at k; exact k
    · rw [if_neg q]; rw [if_neg (by unfold okK at *; omega)] at k; exact k
theorem isk_2 (hI : Inv M) {Φ : Int32 → Prop} {w s κ : Nat} (hκ : κ = 2 ∨ κ = 3) (hs : s < 3) (hw : w ≤ 5) (k : Φ (if okK κ w then 1 else 0)) : lp (D_isOfKind_4 M Φ) 4 (nI w, nI κ, nI s) := by
  by_cases h : w = κ
  · exact isk_hit (by omega) (by omega) h (by rw [if_pos (by unfold okK; omega)] at k; exact k)
  · refine isk_on (by omega) (by omega) hw h ?_
    have e : M 60 κ = nI 1 := by rw [hI.tab.1]; rcases hκ with rfl | rfl <;> rfl
    rw [e]
    refine isk_1 hI (by omega) hw ?_
    by_cases q : okK 1 w
    · rw [if_pos q]; rw [if_pos (by unfold okK at *; omega)] at k; exact k
    · rw [if_neg q]; rw [if_neg (by unfold okK at *; omega)] at k; exact k
theorem isk_4 (hI : Inv M) {Φ : Int32 → Prop} {w s : Nat} (hs : s < 4) (hw : w ≤ 5) (k : Φ (if okK 4 w then 1 else 0)) : lp (D_isOfKind_4 M Φ) 3 (nI w, nI 4, nI s) := by
  by_cases h : w = 4
  · exact isk_hit (by omega) (by omega) h (by rw [if_pos (by unfold okK; omega)] at k; exact k)
  · refine isk_on (by omega) (by omega) hw h ?_
    have e : M 60 4 = nI 0 := by rw [hI.tab.1]; rfl
    rw [e]
    refine isk_0 hI (by omega) hw ?_
    by_cases q : okK 0 w
    · rw [if_pos q]; rw [if_pos (by unfold okK at *; omega)] at k; exact k
    · rw [if_neg q]; rw [if_neg (by unfold okK at *; omega)] at k; exact k
theorem isk_5 (hI : Inv M) {Φ : Int32 → Prop} {w s : Nat} (hs : s < 3) (hw : w ≤ 5) (k : Φ (if okK 5 w then 1 else 0)) : lp (D_isOfKind_4 M Φ) 4 (nI w, nI 5, nI s) := by
  by_cases h : w = 5
  · exact isk_hit (by omega) (by omega) h (by rw [if_pos (by unfold okK; omega)] at k; exact k)
  · refine isk_on (by omega) (by omega) hw h ?_
    have e : M 60 5 = nI 4 := by rw [hI.tab.1]; rfl
    rw [e]
    refine isk_4 hI (by omega) hw ?_
    by_cases q : okK 4 w
    · rw [if_pos q]; rw [if_pos (by unfold okK at *; omega)] at k; exact k
    · rw [if_neg q]; rw [if_neg (by unfold okK at *; omega)] at k; exact k
theorem v_isOfKind (hI : Inv M) {κ w : Nat} (h1 : 1 ≤ κ) (h5 : κ ≤ 5) (hw : w ≤ 5) : Val (S_isOfKind M (nI κ) (nI w)) (if okK κ w then 1 else 0) := by
  intro Φ k
  match κ, h1, h5 with
  | 1, _, _ => exact ⟨_, isk_1 hI (s := 0) (by decide) hw k⟩
  | 2, _, _ => exact ⟨_, isk_2 hI (s := 0) (Or.inl rfl) (by decide) hw k⟩
  | 3, _, _ => exact ⟨_, isk_2 hI (s := 0) (Or.inr rfl) (by decide) hw k⟩
  | 4, _, _ => exact ⟨_, isk_4 hI (s := 0) (by decide) hw k⟩
  | 5, _, _ => exact ⟨_, isk_5 hI (s := 0) (by decide) hw k⟩
theorem op_as (hI : Inv M) : Op_as Inv M := by
  intro a x
  have hB := hI.bike
  obtain ⟨c1, c2, c3⟩ := hB.cb
  obtain ⟨⟨e1, e2, e3, e4, e5, e6, e7, e8⟩, hr, hc, hs⟩ := hB.1
  by_cases hw : wi a 0 (M 44 2 - 1) = 0
  · refine op_run (r := -1000001) (M1 := M) (M2 := M) (fun Φ h => ?_) ⟨rfl, rfl⟩ (fun Φ h => ?_) hI ⟨rfl, rfl⟩
    · exact v_hasCog 7 M a _ ⟨fun _ => h, fun n => absurd (by rw [e2]; exact hw) n⟩
    · exact vr_isCog M _ _ ⟨fun _ => h, fun n => absurd hw n⟩
  by_cases hx : wi x 0 5 = 0
  · refine op_run (r := -1000001) (M1 := M) (M2 := M) (fun Φ h => ?_) ⟨rfl, rfl⟩ (fun Φ h => ?_) hI ⟨rfl, rfl⟩
    · exact v_hasCog 7 M a _ ⟨fun n => absurd n (by rw [e2]; exact hw), fun _ => v_within M _ _ _ _ ⟨fun _ => h, fun n => absurd hx n⟩⟩
    · exact vr_isCog M _ _ ⟨fun n => absurd n hw, fun _ => v_in M _ _ _ _ ⟨fun _ => h, fun n => absurd hx n⟩⟩
  obtain ⟨i, rfl, hi⟩ := wi_nI c2.1 hw
  have hi6 : i < 6 := by omega
  have hV := hB.good (Or.inl (by omega))
  have hk := (hV.2.2.1 i hi).1
  have hxb := wi_1 hx
  rw [show (0 : Int32).toInt = 0 by decide, show (5 : Int32).toInt = 5 by decide] at hxb
  obtain ⟨w, rfl, ew⟩ := ix_nI hxb.1
  obtain ⟨κ, eκ, hκ⟩ := ix_nI (b := M 44 (11 + i)) (by omega)
  have hw5 : w ≤ 5 := by omega
  have hκ1 : 1 ≤ κ := by omega
  have hκ5 : κ ≤ 5 := by omega
  have e11 : (11 : Int32) + nI i = nI (11 + i) := nI8 11 rfl
  have cls : ∀ Φ : Int32 → Mm → Prop, (((if okK κ w then (1 : Int32) else 0) = 0 → S_found M 3 (fun r7 M7 => Φ r7 M7)) ∧ (¬ ((if okK κ w then (1 : Int32) else 0) = 0) → S_unfound M (nI i) (fun r8 M8 => Φ r8 M8))) → S_as M (nI i) (nI w) Φ := by
    intro Φ h
    refine v_hasCog 7 M _ _ ⟨fun n => absurd n (by rw [e2]; exact hw), fun _ => v_within M _ _ _ _ ⟨fun n => absurd n hx, fun _ => ?_⟩⟩
    rw [nI_clamp (by omega), (hc i hi).1, eκ]
    exact ⟨vp_in_nI hi6 (by decide), v_isOfKind hI hκ1 hκ5 hw5 _ h⟩
  have q0 : (nI w = 0) ↔ w = 0 := nI_inj (b := 0) (by omega) (by omega)
  have q1 : (nI w = 1) ↔ w = 1 := nI_inj (b := 1) (by omega) (by omega)
  have q4 : (nI w = 4) ↔ w = 4 := nI_inj (b := 4) (by omega) (by omega)
  have qκ : (nI w = nI κ) ↔ w = κ := nI_inj (by omega) (by omega)
  have k5 : (nI κ = 5) ↔ κ = 5 := nI_inj (b := 5) (by omega) (by omega)
  have k3 : (nI κ ≤ 3) ↔ κ ≤ 3 := nI_le_iff (b := 3) (by omega) (by omega)
  by_cases hok : okK κ w
  · refine op_run (r := nI i) (M1 := mu M 0 8 0) (M2 := mu (mu M 0 8 0) 39 3 0) (fun Φ h => cls Φ ?_) ⟨rfl, rfl⟩ (fun Φ h => ?_) (hI.find 0) ⟨rfl, rfl⟩
    · rw [if_pos hok]
      exact ⟨fun z => absurd z (by decide), fun _ => fun M1 e => by rw [e]; exact h⟩
    · refine vr_isCog (mu M 0 8 0) _ _ ⟨fun n => absurd n hw, fun _ => v_in _ _ _ _ _ ⟨fun n => absurd n hx, fun _ => ?_⟩⟩
      have e11' : mu M 0 8 0 44 (Int32.toNatClampNeg (11 + nI i)) = nI κ := by
        rw [e11, nI_clamp (by omega)]; exact eκ
      rw [e11', e11]
      have k59 : D_R_as_59 Φ (nI i, mu M 0 8 0) := ⟨fun z => absurd z (by decide), fun _ => fun M1 e => by rw [e]; exact h⟩
      refine ⟨vp_in_nI (by omega) (by decide), fun _ => k59, fun z0 => ⟨fun _ => k59, fun zκ => ⟨fun z1 => ⟨fun _ => k59, fun z3 => ?_⟩, fun z1 => ?_⟩⟩⟩
      · rw [D_R_as_49]
        rw [q0] at z0; rw [qκ] at zκ; rw [q1] at z1; rw [k3] at z3
        unfold okK at hok; omega
      · rw [D_R_as_49]
        rw [q0] at z0; rw [qκ] at zκ; rw [q1] at z1
        unfold okK at hok
        exact ⟨fun _ => ⟨fun _ => k59, fun z5 => absurd (k5.mpr (by omega)) z5⟩, fun z4 => absurd (q4.mpr (by omega)) z4⟩
  · refine op_run (r := (-1000010) - 3) (M1 := mu M 0 8 3) (M2 := mu (mu M 0 8 3) 39 3 3) (fun Φ h => cls Φ ?_) ⟨rfl, rfl⟩ (fun Φ h => ?_) (hI.find 3) ⟨rfl, rfl⟩
    · rw [if_neg hok]
      exact ⟨fun _ => fun M1 e => by rw [e]; exact h, fun z => absurd rfl z⟩
    · refine vr_isCog (mu M 0 8 3) _ _ ⟨fun n => absurd n hw, fun _ => v_in _ _ _ _ _ ⟨fun n => absurd n hx, fun _ => ?_⟩⟩
      have e11' : mu M 0 8 3 44 (Int32.toNatClampNeg (11 + nI i)) = nI κ := by
        rw [e11, nI_clamp (by omega)]; exact eκ
      rw [e11', e11]
      have k63 : D_R_as_63 Φ (nI i, mu M 0 8 3) := ⟨fun _ => fun M1 e => by rw [e]; exact h, fun z => absurd rfl z⟩
      unfold okK at hok
      have k49 : D_R_as_49 Φ (nI i, nI w, nI κ, mu M 0 8 3) := ⟨fun z4 => ⟨fun z5 => absurd hok (by rw [q4] at z4; rw [k5] at z5; omega), fun _ => k63⟩, fun _ => k63⟩
      refine ⟨vp_in_nI (by omega) (by decide), fun z0 => absurd hok (by rw [q0] at z0; omega), fun z0 => ⟨fun zκ => absurd hok (by rw [qκ] at zκ; omega), fun zκ => ⟨fun z1 => ⟨fun z3 => absurd hok (by rw [q1] at z1; rw [k3] at z3; omega), fun z3 => k49⟩, fun z1 => k49⟩⟩⟩
end Kinds
