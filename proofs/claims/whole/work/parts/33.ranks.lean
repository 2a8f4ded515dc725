/-! rank, share -/
section Ranks
variable {M : Mm}
def rkl (v : Nat → Int32) (r c : Nat) (j : Nat) (x : Int32) : Int32 := if ig v (nI j) = 0 then x else if v (8 + j / 6) * v (17 + c) < v (8 + r) * v (17 + j % 6) then x + 1 else x
def rka (v : Nat → Int32) (r c : Nat) (a : Int32) (j : Nat) (x : Int32) : Int32 := if ig v (nI j) = 0 then x else if nI j = a then x else if v (8 + j / 6) * v (17 + c) = v (8 + r) * v (17 + j % 6) then x + 1 else x
theorem nlt_le {a b : Int32} : ¬ (b ≤ a) ↔ a < b := by rw [tI_le, tI_lt]; omega
theorem v_compareGears {k : Nat} {v : Nat → Int32} (hR : RelB (M k) (M (k + 1)) (M (k + 2)) (M (k + 3)) (M (k + 4)) (M (k + 5)) v) (hC : CB v) {a : Int32} {r c j : Nat} (hr : (r : Int) < (v 1).toInt) (hc : (c : Int) < (v 2).toInt) (hr3 : r < 3) (hc6 : c < 6) (er : a / 6 = nI r) (ec : irm a 6 = nI c) (hj : j < 18) (hg : ¬ ig v (nI j) = 0) {Φ : Int32 → Prop} (h1 : v (8 + j / 6) * v (17 + c) < v (8 + r) * v (17 + j % 6) → Φ (-1)) (h2 : v (8 + j / 6) * v (17 + c) = v (8 + r) * v (17 + j % 6) → Φ 0) (h3 : ¬ v (8 + j / 6) * v (17 + c) < v (8 + r) * v (17 + j % 6) → ¬ v (8 + j / 6) * v (17 + c) = v (8 + r) * v (17 + j % 6) → Φ 1) : S_Bike_compareGears k M (nI j) a Φ := by
  obtain ⟨g1, g2, g3, g4⟩ := gear_nI hj
  obtain ⟨q1, q2⟩ := ig_nI hj hg
  unfold S_Bike_compareGears
  rw [g1, g2, er, ec, nI_clamp (by omega), nI_clamp (by omega), nI_clamp (by omega), nI_clamp (by omega), hR.2.1 _ q1, hR.2.1 _ hr, (hR.2.2.1 _ q2).2.1, (hR.2.2.1 _ hc).2.1]
  refine ⟨vp_in_nI g3 (by decide), vp_in_nI hc6 (by decide), vp_in_nI hr3 (by decide), vp_in_nI g4 (by decide), fun z => ⟨fun e => h2 e, fun e => h3 (fun q => nlt_le.mpr q z) e⟩, fun z => h1 (nlt_le.mp z)⟩
theorem v_lighterThan {k : Nat} {v : Nat → Int32} (hR : RelB (M k) (M (k + 1)) (M (k + 2)) (M (k + 3)) (M (k + 4)) (M (k + 5)) v) (hC : CB v) {a : Int32} {r c : Nat} (hr : (r : Int) < (v 1).toInt) (hc : (c : Int) < (v 2).toInt) (hr3 : r < 3) (hc6 : c < 6) (er : a / 6 = nI r) (ec : irm a 6 = nI c) : Val (S_Bike_lighterThan k M a) (accN (rkl v r c) 0 18) := by
  intro Φ h
  refine lp_ex (fun i (s : Int32 × Int32 × Int32) => ∃ j, j + i = 18 ∧ s = (a, accN (rkl v r c) 0 j, nI j)) ?_ ?_ (i := 18) ⟨0, rfl, rfl⟩
  · rintro s ⟨j, hj, rfl⟩ rec
    obtain rfl : j = 18 := by omega
    exact ⟨fun _ => h, fun n => absurd (by decide) n⟩
  · rintro i s ⟨j, hj, rfl⟩ rec hrec
    have key : ∀ x, accN (rkl v r c) 0 (j + 1) = x → D_Bike_lighterThan_30 k M Φ rec (a, x, nI j) := fun x e => hrec _ ⟨j + 1, by omega, by rw [← e, nI_inc]⟩
    refine ⟨fun n => absurd n (nle 18 (by omega) (by decide)), fun _ => v_hasGear hC hR.1.1 hR.1.2.1 _ _ ⟨fun q => key _ ?_, fun q => ?_⟩⟩
    · rw [accN]; unfold rkl; rw [if_pos q]
    · refine v_compareGears hR hC hr hc hr3 hc6 er ec (by omega) q (fun z => ⟨fun n => absurd n (by decide), fun _ => key _ ?_⟩) (fun z => ⟨fun _ => key _ ?_, fun n => absurd (by decide) n⟩) (fun z z2 => ⟨fun _ => key _ ?_, fun n => absurd (by decide) n⟩)
      · rw [accN]; unfold rkl; rw [if_neg q, if_pos z]
      · rw [accN]; unfold rkl; rw [if_neg q, if_neg (by rw [z, tI_lt]; omega)]
      · rw [accN]; unfold rkl; rw [if_neg q, if_neg z]
theorem v_alike {k : Nat} {v : Nat → Int32} (hR : RelB (M k) (M (k + 1)) (M (k + 2)) (M (k + 3)) (M (k + 4)) (M (k + 5)) v) (hC : CB v) {a : Int32} {r c : Nat} (hr : (r : Int) < (v 1).toInt) (hc : (c : Int) < (v 2).toInt) (hr3 : r < 3) (hc6 : c < 6) (er : a / 6 = nI r) (ec : irm a 6 = nI c) : Val (S_Bike_alike k M a) (accN (rka v r c a) 0 18) := by
  intro Φ h
  refine lp_ex (fun i (s : Int32 × Int32 × Int32) => ∃ j, j + i = 18 ∧ s = (a, accN (rka v r c a) 0 j, nI j)) ?_ ?_ (i := 18) ⟨0, rfl, rfl⟩
  · rintro s ⟨j, hj, rfl⟩ rec
    obtain rfl : j = 18 := by omega
    exact ⟨fun _ => h, fun n => absurd (by decide) n⟩
  · rintro i s ⟨j, hj, rfl⟩ rec hrec
    have key : ∀ x, accN (rka v r c a) 0 (j + 1) = x → D_Bike_alike_35 k M Φ rec (a, x, nI j) := fun x e => hrec _ ⟨j + 1, by omega, by rw [← e, nI_inc]⟩
    refine ⟨fun n => absurd n (nle 18 (by omega) (by decide)), fun _ => ⟨fun q0 => key _ ?_, fun q0 => v_hasGear hC hR.1.1 hR.1.2.1 _ _ ⟨fun q => key _ ?_, fun q => ?_⟩⟩⟩
    · rw [accN]; unfold rka; rw [if_pos (c := nI j = a) q0]; split <;> rfl
    · rw [accN]; unfold rka; rw [if_pos q]
    · refine v_compareGears hR hC hr hc hr3 hc6 er ec (by omega) q (fun z => ⟨fun n => absurd n (by decide), fun _ => key _ ?_⟩) (fun z => ⟨fun _ => key _ ?_, fun n => absurd rfl n⟩) (fun z z2 => ⟨fun n => absurd n (by decide), fun _ => key _ ?_⟩)
      · rw [accN]; unfold rka; rw [if_neg q, if_neg q0, if_neg (fun e => by rw [e, tI_lt] at z; omega)]
      · rw [accN]; unfold rka; rw [if_neg q, if_neg q0, if_pos z]
      · rw [accN]; unfold rka; rw [if_neg q, if_neg q0, if_neg z2]
theorem vr_rankLoop {a w : Int32} {r c : Nat} (hr : (r : Int) < (M 44 1).toInt) (hc : (c : Int) < (M 44 2).toInt) (hr3 : r < 3) (hc6 : c < 6) (er : a / 6 = nI r) (ec : irm a 6 = nI c) : Val (fun Φ => ∃ n, lp (D_R_rank_25 M Φ) n (a, w, 0, 0)) (if w = 0 then accN (rkl (M 44) r c) 0 18 else accN (rka (M 44) r c a) 0 18) := by
  intro Φ h
  have e8 : (8 : Int32) + a / 6 = nI (8 + r) := nI8 8 er
  have e17 : (17 : Int32) + irm a 6 = nI (17 + c) := nI8 17 ec
  refine lp_ex (fun i (s : Int32 × Int32 × Int32 × Int32) => ∃ j, j + i = 18 ∧ s = (a, w, (if w = 0 then accN (rkl (M 44) r c) 0 j else accN (rka (M 44) r c a) 0 j), nI j)) ?_ ?_ (i := 18) ⟨0, rfl, ?_⟩
  · rintro s ⟨j, hj, rfl⟩ rec
    obtain rfl : j = 18 := by omega
    exact ⟨fun _ => h, fun n => absurd (by decide) n⟩
  · rintro i s ⟨j, hj, rfl⟩ rec hrec
    obtain ⟨g1, g2, g3, g4⟩ := gear_nI (show j < 18 by omega)
    have f8 : (8 : Int32) + nI j / 6 = nI (8 + j / 6) := nI8 8 g1
    have f17 : (17 : Int32) + irm (nI j) 6 = nI (17 + j % 6) := nI8 17 g2
    have key : ∀ x, (if w = 0 then accN (rkl (M 44) r c) 0 (j + 1) else accN (rka (M 44) r c a) 0 (j + 1)) = x → D_R_rank_137 M Φ rec (a, w, x, nI j) := fun x e => hrec _ ⟨j + 1, by omega, by rw [← e, nI_inc]⟩
    rw [D_R_rank_25]
    refine ⟨fun n => absurd n (nle 18 (by omega) (by decide)), fun _ => vr_isGear M _ _ ⟨fun q => key _ ?_, fun q => ⟨fun q0 => key _ ?_, fun q0 => ?_⟩⟩⟩
    · rw [accN, accN]; unfold rkl rka; rw [if_pos q, if_pos q]
    · have s1 : r = j / 6 := by
        rw [← q0, g1] at er; exact ((nI_inj (by omega) (by omega)).mp er).symm
      have s2 : c = j % 6 := by
        rw [← q0, g2] at ec; exact ((nI_inj (by omega) (by omega)).mp ec).symm
      have k1 : ∀ x, rkl (M 44) r c j x = x := fun x => by unfold rkl; rw [if_neg q, if_neg (by rw [s1, s2, tI_lt]; omega)]
      have k2 : ∀ x, rka (M 44) r c a j x = x := fun x => by unfold rka; rw [if_neg q, if_pos q0]
      rw [accN, accN, k1, k2]
    · rw [f8, f17, e8, e17, nI_clamp (by omega), nI_clamp (by omega), nI_clamp (by omega), nI_clamp (by omega)]
      refine ⟨vp_in_nI (by omega) (by decide), vp_in_nI (by omega) (by decide), vp_in_nI (by omega) (by decide), vp_in_nI (by omega) (by decide), fun w0 => ⟨fun z => key _ ?_, fun z => key _ ?_⟩, fun w0 => ⟨fun z => key _ ?_, fun z => key _ ?_⟩⟩
      · rw [if_pos w0, if_pos w0, accN, Int32.add_zero]; unfold rkl; rw [if_neg q, if_neg (fun e => nlt_le.mpr e z)]
      · rw [if_pos w0, if_pos w0, accN]; unfold rkl; rw [if_neg q, if_pos (nlt_le.mp z)]
      · rw [if_neg w0, if_neg w0, accN]; unfold rka; rw [if_neg q, if_neg q0, if_pos z]
      · rw [if_neg w0, if_neg w0, accN, Int32.add_zero]; unfold rka; rw [if_neg q, if_neg q0, if_neg z]
  · rw [accN, accN]; split <;> rfl
theorem op_rank (hI : Inv M) : Op_rank Inv M := by
  intro a w
  have hB := hI.bike
  have hC := hB.cb
  have hR := hB.1
  by_cases hg : ig (M 44) a = 0
  · refine op_pure hI (S := S_rank M a w) (v := -1000001) (fun Φ h => ?_) (SR := S_R_rank M a w) (fun Φ h => ?_) (SR' := fun M => S_R_rank M a w) rfl
    · exact v_hasGear hC hR.1.1 hR.1.2.1 a _ ⟨fun _ => h, fun n => absurd hg n⟩
    · exact vr_isGear M a _ ⟨fun _ => h, fun n => absurd hg n⟩
  by_cases hw : wi w 0 1 = 0
  · refine op_pure hI (S := S_rank M a w) (v := -1000001) (fun Φ h => ?_) (SR := S_R_rank M a w) (fun Φ h => ?_) (SR' := fun M => S_R_rank M a w) rfl
    · exact v_hasGear hC hR.1.1 hR.1.2.1 a _ ⟨fun n => absurd n hg, fun _ => v_within M _ _ _ _ ⟨fun _ => h, fun n => absurd hw n⟩⟩
    · exact vr_isGear M a _ ⟨fun n => absurd n hg, fun _ => v_in M _ _ _ _ ⟨fun _ => h, fun n => absurd hw n⟩⟩
  obtain ⟨r, c, hr, hc, hr3, hc6, er, ec⟩ := gear_ix hC hg
  refine op_pure hI (S := S_rank M a w) (v := if w = 0 then accN (rkl (M 44) r c) 0 18 else accN (rka (M 44) r c a) 0 18) (fun Φ h => ?_) (SR := S_R_rank M a w) (fun Φ h => ?_) (SR' := fun M => S_R_rank M a w) rfl
  · refine v_hasGear hC hR.1.1 hR.1.2.1 a _ ⟨fun n => absurd n hg, fun _ => v_within M _ _ _ _ ⟨fun n => absurd n hw, fun _ => ⟨fun w0 => ?_, fun w0 => ?_⟩⟩⟩
    · rw [if_pos w0] at h
      exact v_lighterThan (k := 7) hR hC hr hc hr3 hc6 er ec _ h
    · rw [if_neg w0] at h
      exact v_alike (k := 7) hR hC hr hc hr3 hc6 er ec _ h
  · exact vr_isGear M a _ ⟨fun n => absurd n hg, fun _ => v_in M _ _ _ _ ⟨fun n => absurd n hw, fun _ => vr_rankLoop hr hc hr3 hc6 er ec _ h⟩⟩
/-- the TURNS on all COGS -/
def allv (v : Nat → Int32) : Nat → Int32 := accN (fun j x => x + v (29 + j)) 0
theorem allv_bnd {v : Nat → Int32} (hV : VB v) : ∀ j : Nat, (j : Int) ≤ (v 2).toInt → 0 ≤ (allv v j).toInt ∧ (allv v j).toInt ≤ 99999 * j ∧ ∀ c, c < j → (v (29 + c)).toInt ≤ (allv v j).toInt
  | 0, _ => by
    refine ⟨by show 0 ≤ (0 : Int32).toInt; decide, by show (0 : Int32).toInt ≤ 99999 * ((0 : Nat) : Int); decide, fun c hc => absurd hc (by omega)⟩
  | j + 1, h => by
    have ih := allv_bnd hV j (by omega)
    have hb := (hV.2.2.1 j (by omega)).2.2
    have h6 := hV.1.2.1
    have e : (allv v (j + 1)).toInt = (allv v j).toInt + (v (29 + j)).toInt := by
      show (allv v j + v (29 + j)).toInt = _
      exact tI_add (by omega) (by omega)
    refine ⟨by omega, by omega, fun c hc => ?_⟩
    by_cases q : c = j
    · subst q; omega
    · have := ih.2.2 c (by omega); omega
def ovv (v : Nat → Int32) (n al : Int32) : Nat → Int32 := accN (fun j x => x - (n * v (29 + j)) / al) n
def usv (v : Nat → Int32) (c : Nat) : Nat → Int32 := accN (fun j x => if c ≤ j then x else if v (29 + j) ≤ 0 then x else x + 1) 0
def shv (v : Nat → Int32) (c : Nat) (n al : Int32) (m : Nat) : Int32 := if ovv v n al m ≤ usv v c m then (n * v (29 + c)) / al + 0 else (n * v (29 + c)) / al + 1
theorem v_shareOf {k : Nat} {v : Nat → Int32} (hR : RelB (M k) (M (k + 1)) (M (k + 2)) (M (k + 3)) (M (k + 4)) (M (k + 5)) v) (hV : VB v) {c m : Nat} (hm : v 2 = nI m) (hm6 : m ≤ 6) (hc : c < m) (n : Int32) : Val (S_Bike_shareOf k M (nI c) n) (if v (29 + c) = 0 then 0 else shv v c n (allv v m) m) := by
  intro Φ h
  have e0 : (0 : Int32).toInt = 0 := by decide
  have em : M k 2 = nI m := hR.1.2.1.trans hm
  have gm : (v 2).toInt = m := by rw [hm]; exact nI_toInt (by omega)
  have eon : ∀ j, j < m → M (k + 4) j = v (29 + j) := fun j hj => (hR.2.2.1 j (by omega)).2.2
  have hall := allv_bnd hV m (by omega)
  refine lp_ex (fun q (s : Int32 × Int32 × Int32 × Int32) => ∃ j, j + q = m ∧ s = (nI c, n, allv v j, nI j)) ?_ ?_ (i := m) ⟨0, by omega, rfl⟩
  · rintro s ⟨j, hj, rfl⟩ rec
    obtain rfl : j = m := by omega
    rw [D_Bike_shareOf_5, em, nI_clamp (by omega), eon c hc]
    refine ⟨fun _ => ⟨fun z => ?_, fun z => ⟨vp_in_nI (by omega) (by decide), fun z0 => ?_, fun z0 => ?_⟩⟩, fun z => absurd (by rw [tI_le]; omega) z⟩
    · rw [tI_le, e0] at z
      have h1 := hall.2.2 c hc
      have h2 := (hV.2.2.1 c (by omega)).2.2
      rw [if_pos (by rw [tI_eq, e0]; omega)] at h; exact h
    · rw [if_pos z0] at h; exact h
    · rw [if_neg z0] at h
      have hne : ¬ allv v j = 0 := fun q => z (by rw [q, tI_le]; omega)
      refine lp_ex (fun q (s : Int32 × Int32 × Int32 × Int32 × Int32 × Int32) => ∃ i, i + q = j ∧ s = (nI c, n, allv v j, ovv v n (allv v j) i, usv v c i, nI i)) ?_ ?_ (i := j) ⟨0, by omega, rfl⟩
      · rintro s ⟨i, hi, rfl⟩ rec
        obtain rfl : i = j := by omega
        rw [D_Bike_shareOf_54, em, nI_clamp (by omega), eon c hc]
        refine ⟨fun _ => ⟨vp_in_nI (by omega) (by decide), hne, fun q => ?_, fun q => ?_⟩, fun z => absurd (by rw [tI_le]; omega) z⟩
        · unfold shv at h; rw [if_pos q] at h; exact h
        · unfold shv at h; rw [if_neg q] at h; exact h
      · rintro q s ⟨i, hi, rfl⟩ rec hrec
        have hij : i < j := by omega
        rw [D_Bike_shareOf_54, em, nI_clamp (n := i) (by omega), eon i hij]
        have key : ∀ x, usv v c (i + 1) = x → D_Bike_shareOf_98 k M Φ rec (nI c, n, allv v j, ovv v n (allv v j) i - n * v (29 + i) / allv v j, x, nI i) := fun x e => hrec _ ⟨i + 1, by omega, by rw [← e, nI_inc]; rfl⟩
        have eu : usv v c (i + 1) = if c ≤ i then usv v c i else if v (29 + i) ≤ 0 then usv v c i else usv v c i + 1 := rfl
        have gl : (nI c ≤ nI i) ↔ c ≤ i := nI_le_iff (by omega) (by omega)
        refine ⟨fun z => absurd z (nle j (by omega) (by omega)), fun _ => ⟨vp_in_nI (by omega) (by decide), hne, fun q => key _ ?_, fun q => ⟨vp_in_nI (by omega) (by decide), fun q2 => key _ ?_, fun q2 => key _ ?_⟩⟩⟩
        · rw [eu, if_pos (gl.mp q)]
        · rw [eu, if_neg (fun z => q (gl.mpr z)), if_pos q2]
        · rw [eu, if_neg (fun z => q (gl.mpr z)), if_neg q2]
  · rintro q s ⟨j, hj, rfl⟩ rec hrec
    have hjm : j < m := by omega
    rw [D_Bike_shareOf_5, em, nI_clamp (n := j) (by omega), eon j hjm]
    refine ⟨fun z => absurd z (nle m (by omega) (by omega)), fun _ => ⟨vp_in_nI (by omega) (by decide), hrec _ ⟨j + 1, by omega, by rw [nI_inc]; rfl⟩⟩⟩
theorem vr_shareLoop (hV : VB (M 44)) {c m : Nat} (hm : M 44 2 = nI m) (hm6 : m ≤ 6) (hc : c < m) (n : Int32) : Val (fun Φ => ∃ q, lp (D_R_share_27 M Φ) q (nI c, n, 0, 0)) (if M 44 (29 + c) = 0 then 0 else shv (M 44) c n (allv (M 44) m) m) := by
  intro Φ h
  have e0 : (0 : Int32).toInt = 0 := by decide
  have hm' : M 44 (Int32.toNatClampNeg 2) = nI m := hm
  have gm : (M 44 2).toInt = m := by rw [hm]; exact nI_toInt (by omega)
  have hall := allv_bnd hV m (by omega)
  have e29 : (29 : Int32) + nI c = nI (29 + c) := nI8 29 rfl
  refine lp_ex (fun q (s : Int32 × Int32 × Int32 × Int32) => ∃ j, j + q = m ∧ s = (nI c, n, allv (M 44) j, nI j)) ?_ ?_ (i := m) ⟨0, by omega, rfl⟩
  · rintro s ⟨j, hj, rfl⟩ rec
    obtain rfl : j = m := by omega
    rw [D_R_share_27, hm', e29, nI_clamp (by omega)]
    refine ⟨fun _ => ⟨vp_in_nI (by omega) (by decide), fun z0 => ?_, fun z0 => ?_⟩, fun z => absurd (by rw [tI_le]; omega) z⟩
    · rw [if_pos z0] at h; exact h
    · rw [if_neg z0] at h
      have hne : ¬ allv (M 44) j = 0 := fun q => by
        have h1 := hall.2.2 c hc
        have h2 := (hV.2.2.1 c (by omega)).2.2
        rw [q, e0] at h1
        exact z0 (by rw [tI_eq, e0]; omega)
      refine lp_ex (fun q (s : Int32 × Int32 × Int32 × Int32 × Int32 × Int32) => ∃ i, i + q = j ∧ s = (nI c, n, allv (M 44) j, ovv (M 44) n (allv (M 44) j) i, usv (M 44) c i, nI i)) ?_ ?_ (i := j) ⟨0, by omega, rfl⟩
      · rintro s ⟨i, hi, rfl⟩ rec
        obtain rfl : i = j := by omega
        rw [D_R_share_80, hm', e29, nI_clamp (by omega)]
        refine ⟨fun _ => ⟨vp_in_nI (by omega) (by decide), hne, fun q => ?_, fun q => ?_⟩, fun z => absurd (by rw [tI_le]; omega) z⟩
        · unfold shv at h; rw [if_pos q] at h; exact h
        · unfold shv at h; rw [if_neg q] at h; exact h
      · rintro q s ⟨i, hi, rfl⟩ rec hrec
        have hij : i < j := by omega
        have f29 : (29 : Int32) + nI i = nI (29 + i) := nI8 29 rfl
        rw [D_R_share_80, hm', f29, nI_clamp (n := 29 + i) (by omega)]
        have key : ∀ x y, usv (M 44) c (i + 1) = x + y → D_R_share_136 M Φ rec (nI c, n, allv (M 44) j, ovv (M 44) n (allv (M 44) j) i - n * M 44 (29 + i) / allv (M 44) j, nI i, y, x) := fun x y e => hrec _ ⟨i + 1, by omega, by rw [← e, nI_inc]; rfl⟩
        have eu : usv (M 44) c (i + 1) = if c ≤ i then usv (M 44) c i else if M 44 (29 + i) ≤ 0 then usv (M 44) c i else usv (M 44) c i + 1 := rfl
        have gl : (nI c ≤ nI i) ↔ c ≤ i := nI_le_iff (by omega) (by omega)
        refine ⟨fun z => absurd z (nle j (by omega) (by omega)), fun _ => ⟨vp_in_nI (by omega) (by decide), hne, fun q => key _ _ ?_, fun q => ⟨vp_in_nI (by omega) (by decide), fun q2 => key _ _ ?_, fun q2 => key _ _ ?_⟩⟩⟩
        · rw [eu, if_pos (gl.mp q), Int32.add_zero]
        · rw [eu, if_neg (fun z => q (gl.mpr z)), if_pos q2, Int32.add_zero]
        · rw [eu, if_neg (fun z => q (gl.mpr z)), if_neg q2]
  · rintro q s ⟨j, hj, rfl⟩ rec hrec
    have hjm : j < m := by omega
    have f29 : (29 : Int32) + nI j = nI (29 + j) := nI8 29 rfl
    rw [D_R_share_27, hm', f29, nI_clamp (n := 29 + j) (by omega)]
    refine ⟨fun z => absurd z (nle m (by omega) (by omega)), fun _ => ⟨vp_in_nI (by omega) (by decide), hrec _ ⟨j + 1, by omega, by rw [nI_inc]; rfl⟩⟩⟩
theorem op_share (hI : Inv M) : Op_share Inv M := by
  intro a n
  have hB := hI.bike
  obtain ⟨c1, c2, c3⟩ := hB.cb
  have hR := hB.1
  have e2 := hR.1.2.1
  by_cases hw : wi a 0 (M 44 2 - 1) = 0
  · refine op_pure hI (S := S_share M a n) (v := -1000001) (fun Φ h => ?_) (SR := S_R_share M a n) (fun Φ h => ?_) (SR' := fun M => S_R_share M a n) rfl
    · exact v_hasCog 7 M a _ ⟨fun _ => h, fun n => absurd (by rw [e2]; exact hw) n⟩
    · exact vr_isCog M _ _ ⟨fun _ => h, fun n => absurd hw n⟩
  by_cases hx : wi n 0 999 = 0
  · refine op_pure hI (S := S_share M a n) (v := -1000001) (fun Φ h => ?_) (SR := S_R_share M a n) (fun Φ h => ?_) (SR' := fun M => S_R_share M a n) rfl
    · exact v_hasCog 7 M a _ ⟨fun n => absurd n (by rw [e2]; exact hw), fun _ => v_within M _ _ _ _ ⟨fun _ => h, fun n => absurd hx n⟩⟩
    · exact vr_isCog M _ _ ⟨fun n => absurd n hw, fun _ => v_in M _ _ _ _ ⟨fun _ => h, fun n => absurd hx n⟩⟩
  obtain ⟨i, rfl, hi⟩ := wi_nI c2.1 hw
  have hV := hB.good (Or.inl (by omega))
  obtain ⟨m, em, hm⟩ := ix_nI (b := M 44 2) c2.1
  refine op_pure hI (S := S_share M (nI i) n) (v := if M 44 (29 + i) = 0 then 0 else shv (M 44) i n (allv (M 44) m) m) (fun Φ h => ?_) (SR := S_R_share M (nI i) n) (fun Φ h => ?_) (SR' := fun M => S_R_share M (nI i) n) rfl
  · exact v_hasCog 7 M _ _ ⟨fun n => absurd n (by rw [e2]; exact hw), fun _ => v_within M _ _ _ _ ⟨fun z => absurd z hx, fun _ => v_shareOf (k := 7) hR hV em (by omega) (by omega) n _ h⟩⟩
  · exact vr_isCog M _ _ ⟨fun n => absurd n hw, fun _ => v_in M _ _ _ _ ⟨fun z => absurd z hx, fun _ => vr_shareLoop hV em (by omega) (by omega) n _ h⟩⟩
end Ranks
