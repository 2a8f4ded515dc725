/-! cost, rank -/
def nx (up : Bool) (c : Nat) : Nat := if up then c + 1 else c - 1
/-- does a COG stand on the way that can't be left; how many TURNS the way takes -/
def blk (v : Nat → Int32) (p : Int32) (up : Bool) : Nat → Nat → Bool
  | 0, _ => false
  | n + 1, c => (mlv v c p == 0) || blk v p up n (nx up c)
def smv (v : Nat → Int32) (up : Bool) : Nat → Nat → Int32
  | 0, _ => 0
  | n + 1, c => tov v (nx up c) + smv v up n (nx up c)
def way (f t : Nat) : Nat := if f ≤ t then t - f else f - t
def upw (f t : Nat) : Bool := Nat.ble f t
def bl (v : Nat → Int32) (p : Int32) (f t : Nat) : Bool := blk v p (upw f t) (way f t) f
def su (v : Nat → Int32) (f t : Nat) : Int32 := smv v (upw f t) (way f t) f
theorem smv_bnd (v : Nat → Int32) (up : Bool) : ∀ n c : Nat, n ≤ 6 → 0 ≤ (smv v up n c).toInt ∧ (smv v up n c).toInt ≤ 3 * n
  | 0, c, _ => by unfold smv; decide
  | n + 1, c, h => by
    have ih := smv_bnd v up n (nx up c) (by omega)
    have tb := tov_bnd v (nx up c)
    unfold smv
    rw [tI_add (by omega) (by omega)]; omega
theorem su_bnd (v : Nat → Int32) {f t : Nat} (hf : f < 6) (ht : t < 6) : 0 ≤ (su v f t).toInt ∧ (su v f t).toInt ≤ 18 := by
  have hw : way f t ≤ 6 := by unfold way; split <;> omega
  have := smv_bnd v (upw f t) (way f t) f hw
  unfold su; omega
/-- how the way goes on, n steps before its end -/
def onway (up : Bool) (n c t : Nat) : Prop := c < 6 ∧ t < 6 ∧ (if up then c + n = t else c = t + n)
theorem onway_s {up : Bool} {n c t : Nat} (h : onway up (n + 1) c t) : onway up n (nx up c) t ∧ nI c + (if up then 1 else -1) = nI (nx up c) ∧ ¬ c = t := by
  obtain ⟨h1, h2, h3⟩ := h
  cases up
  · have h3 : c = t + (n + 1) := h3
    subst h3
    refine ⟨⟨by show t + (n + 1) - 1 < 6; omega, h2, by show t + (n + 1) - 1 = t + n; omega⟩, ?_, by omega⟩
    show nI (t + n + 1) + -1 = nI (t + n + 1 - 1)
    exact pk_m1 _
  · have h3 : c + (n + 1) = t := h3
    refine ⟨⟨by show c + 1 < 6; omega, h2, by show c + 1 + n = t; omega⟩, ?_, by omega⟩
    exact nI_inc c
theorem onway_0 {f t : Nat} (hf : f < 6) (ht : t < 6) : onway (upw f t) (way f t) f t := by
  unfold onway upw way
  by_cases h : f ≤ t
  · rw [if_pos h, if_pos (Nat.ble_eq_true_of_le h)]; exact ⟨hf, ht, by omega⟩
  · have : ¬ Nat.ble f t = true := fun z => h (Nat.le_of_ble_eq_true z)
    rw [if_neg h, if_neg this]; exact ⟨hf, ht, by omega⟩
theorem mlv_01 (v : Nat → Int32) (c : Nat) (p : Int32) : mlv v c p = 0 ∨ mlv v c p = 1 := by unfold mlv; split <;> simp
section Costs
variable {M : Mm}
theorem v_cogCost {k : Nat} {v : Nat → Int32} (hk : ∀ c : Nat, (c : Int) < (v 2).toInt → M (k + 2) c = v (11 + c)) {f t : Nat} (hf : (f : Int) < (v 2).toInt) (ht : (t : Int) < (v 2).toInt) (hf6 : f < 6) (ht6 : t < 6) (p : Int32) : Val (S_Bike_cogCost k M (nI f) (nI t) p) (if bl v p f t then -1000000 else su v f t) := by
  intro Φ h
  have e0 : (0 : Int32).toInt = 0 := by decide
  have gf := nI_toInt (n := f) (by omega)
  have gt := nI_toInt (n := t) (by omega)
  have key : ∀ by_ : Int32, (¬ f = t → by_ = (if upw f t then 1 else -1)) → ∃ n, lp (D_Bike_cogCost_21 k M Φ) n (p, by_, 0, nI f, nI (way f t)) := by
    intro by_ hby
    by_cases hft : f = t
    · subst hft
      have hw : way f f = 0 := by unfold way; rw [if_pos (Nat.le_refl f)]; omega
      unfold bl su at h
      rw [hw] at h ⊢
      exact ⟨1, fun _ => h, fun z => absurd (by decide) z⟩
    · rw [hby hft]
      refine lp_ex (fun q (a : Int32 × Int32 × Int32 × Int32 × Int32) => ∃ c acc, a = (p, (if upw f t then 1 else -1), acc, nI c, nI q) ∧ q ≤ 6 ∧ onway (upw f t) q c t ∧ (∀ j : Nat, (c ≤ j ∧ j ≤ t) ∨ (t ≤ j ∧ j ≤ c) → (j : Int) < (v 2).toInt) ∧ Φ (if blk v p (upw f t) q c then -1000000 else acc + smv v (upw f t) q c)) ?_ ?_ (i := way f t) ⟨f, 0, rfl, by unfold way; split <;> omega, onway_0 hf6 ht6, fun j hj => by omega, ?_⟩
      · rintro a ⟨c, acc, rfl, -, hon, hin, hΦ⟩ rec
        refine ⟨fun _ => ?_, fun z => absurd (by decide) z⟩
        have hΦ : Φ (acc + 0) := hΦ
        rw [Int32.add_zero] at hΦ
        exact hΦ
      · rintro q a ⟨c, acc, rfl, hq, hon, hin, hΦ⟩ rec hrec
        obtain ⟨hon', hst, hne⟩ := onway_s hon
        have hc := hin c (by obtain ⟨_, _, h3⟩ := hon; split at h3 <;> omega)
        have hc' : ((nx (upw f t) c : Nat) : Int) < (v 2).toInt := hin _ (by
          obtain ⟨_, _, h3⟩ := hon; unfold nx; split at h3 <;> rename_i z <;> simp only [z] <;> simp <;> omega)
        have gq := nI_toInt (n := q + 1) (by omega)
        rw [D_Bike_cogCost_21]
        refine ⟨fun z => ?_, fun _ => ?_⟩
        · rw [tI_le, gq, e0] at z; omega
        · refine v_mayLeave (v := v) (hk c hc) hon.1 _ _ ⟨fun z => ?_, fun z => ?_⟩
          · have : blk v p (upw f t) (q + 1) c = true := by unfold blk; rw [z]; rfl
            rw [if_pos this] at hΦ; exact hΦ
          · rw [hst]
            refine v_turnsOnto (v := v) (hk _ hc') hon'.1 _ (hrec _ ⟨nx (upw f t) c, acc + tov v (nx (upw f t) c), ?_, by omega, hon', fun j hj => hin j (by
              obtain ⟨_, _, h3⟩ := hon; unfold nx at hj; split at h3 <;> rename_i z <;> simp only [z] at hj <;> simp at hj <;> omega), ?_⟩)
            · rw [pk_m1]
            · have e1 : blk v p (upw f t) (q + 1) c = blk v p (upw f t) q (nx (upw f t) c) := by
                show ((mlv v c p == 0) || _) = _
                have : (mlv v c p == 0) = false := by simpa using z
                rw [this]; rfl
              rw [e1] at hΦ
              have e2 : acc + smv v (upw f t) (q + 1) c = acc + tov v (nx (upw f t) c) + smv v (upw f t) q (nx (upw f t) c) := by
                show acc + (_ + _) = _
                rw [Int32.add_assoc]
              rw [e2] at hΦ
              exact hΦ
      · rw [Int32.zero_add]
        exact h
  have kw : ∀ by_ : Int32, (¬ f = t → by_ = (if upw f t then 1 else -1)) → S_Math_abs M (nI t - nI f) (fun r2 => ∃ n, lp (D_Bike_cogCost_21 k M Φ) n (p, by_, 0, nI f, r2)) := by
    intro by_ hby
    have gs : (nI t - nI f).toInt = (t : Int) - f := by rw [tI_sub (by omega) (by omega), gf, gt]
    refine ⟨fun z => ?_, fun z => ?_⟩ <;> rw [tI_le, e0, gs] at z
    · have : nI t - nI f = nI (way f t) := by
        have hw : way f t = t - f := by unfold way; rw [if_pos (by omega)]
        rw [hw]; exact pk_sub (by omega)
      rw [this]; exact key by_ hby
    · have : -(nI t - nI f) = nI (way f t) := by
        have hw : way f t = f - t := by unfold way; rw [if_neg (by omega)]
        rw [hw, ← pk_sub (by omega), Int32.neg_sub]
      rw [this]; exact key by_ hby
  refine ⟨fun z => ⟨fun z2 => kw 0 (fun n => ?_), fun z2 => kw 1 (fun n => ?_)⟩, fun z => kw (-1) (fun n => ?_)⟩
  · exact absurd ((nI_inj (by omega) (by omega)).mp z2).symm n
  · rw [tI_le, gf, gt] at z
    have : upw f t = true := Nat.ble_eq_true_of_le (by omega)
    rw [this]; rfl
  · rw [tI_le, gf, gt] at z
    have : upw f t = false := by
      cases hh : upw f t
      · rfl
      · exact absurd (Nat.le_of_ble_eq_true hh) (by omega)
    rw [this]; rfl
/-- what RINGS cost -/
def rcst (a b : Int32) : Int32 := 5 * (if 0 ≤ a / 6 - b / 6 then a / 6 - b / 6 else -(a / 6 - b / 6))
theorem v_ringCost (a b : Int32) : Val (S_Bike_ringCost M a b) (rcst a b) := by
  intro Φ h
  unfold rcst at h
  refine ⟨fun z => ?_, fun z => ?_⟩
  · rw [if_pos z] at h; exact h
  · rw [if_neg z] at h; exact h
theorem vr_costOf {a b : Int32} {f t : Nat} (ef : irm a 6 = nI f) (et : irm b 6 = nI t) (hf : f < 6) (ht : t < 6) (p : Int32) : Val (S_R_costOf M a b p) (if bl (M 44) p f t then -1000000 else rcst a b + su (M 44) f t) := by
  intro Φ h
  have gf := nI_toInt (n := f) (by omega)
  have gt := nI_toInt (n := t) (by omega)
  have key : ∀ x5 : Int32, (¬ f = t → x5 = (if upw f t then 1 else -1)) → D_R_costOf_48 M Φ (b, p, rcst a b, nI f, x5) := by
    intro x5 hby
    rw [D_R_costOf_48]
    by_cases hft : f = t
    · subst hft
      have hw : way f f = 0 := by unfold way; rw [if_pos (Nat.le_refl f)]; omega
      unfold bl su at h
      rw [hw] at h
      refine ⟨1, fun _ => ?_, fun z => absurd et.symm z⟩
      have h : Φ (rcst a b + 0) := h
      rw [Int32.add_zero] at h
      exact h
    · rw [hby hft]
      refine lp_ex (fun q (a : Int32 × Int32 × Int32 × Int32 × Int32) => ∃ c acc, a = (b, p, acc, nI c, (if upw f t then 1 else -1)) ∧ onway (upw f t) q c t ∧ Φ (if blk (M 44) p (upw f t) q c then -1000000 else acc + smv (M 44) (upw f t) q c)) ?_ ?_ (i := way f t) ⟨f, rcst a b, rfl, onway_0 hf ht, h⟩
      · rintro a ⟨c, acc, rfl, hon, hΦ⟩ rec
        have : c = t := by obtain ⟨_, _, h3⟩ := hon; split at h3 <;> omega
        rw [D_R_costOf_50, et, this]
        refine ⟨fun _ => ?_, fun z => absurd rfl z⟩
        have hΦ : Φ (acc + 0) := hΦ
        rw [Int32.add_zero] at hΦ
        exact hΦ
      · rintro q a ⟨c, acc, rfl, hon, hΦ⟩ rec hrec
        obtain ⟨hon', hst, hne⟩ := onway_s hon
        have hc6 := hon.1
        rw [D_R_costOf_50, et]
        refine ⟨fun z => absurd ((nI_inj (by omega) (by omega)).mp z) hne, fun _ => ?_⟩
        refine vr_canLeave hon.1 _ _ ⟨fun z => ?_, fun z => ?_⟩
        · have : blk (M 44) p (upw f t) (q + 1) c = true := by unfold blk; rw [z]; rfl
          rw [if_pos this] at hΦ; exact hΦ
        · rw [hst]
          refine vr_shiftOnto hon'.1 _ (hrec _ ⟨nx (upw f t) c, acc + tov (M 44) (nx (upw f t) c), rfl, hon', ?_⟩)
          have e1 : blk (M 44) p (upw f t) (q + 1) c = blk (M 44) p (upw f t) q (nx (upw f t) c) := by
            show ((mlv (M 44) c p == 0) || _) = _
            have : (mlv (M 44) c p == 0) = false := by simpa using z
            rw [this]; rfl
          rw [e1] at hΦ
          have e2 : acc + smv (M 44) (upw f t) (q + 1) c = acc + tov (M 44) (nx (upw f t) c) + smv (M 44) (upw f t) q (nx (upw f t) c) := by
            show acc + (_ + _) = _
            rw [Int32.add_assoc]
          rw [e2] at hΦ
          exact hΦ
  have k25 : ∀ x4 : Int32, 5 * x4 = rcst a b → D_R_costOf_25 M Φ (a, b, p, x4, 5) := by
    intro x4 e
    rw [D_R_costOf_25, e, ef, et]
    refine ⟨fun z => key _ (fun n => ?_), fun z => key _ (fun n => ?_)⟩
    · rw [tI_le, gf, gt] at z
      have : upw f t = false := by
        cases hh : upw f t
        · rfl
        · exact absurd (Nat.le_of_ble_eq_true hh) (by omega)
      rw [this]; rfl
    · rw [tI_le, gf, gt] at z
      have : upw f t = true := Nat.ble_eq_true_of_le (by omega)
      rw [this]; rfl
  refine ⟨fun z => k25 _ ?_, fun z => k25 _ ?_⟩
  · unfold rcst; rw [if_pos z]
  · unfold rcst; rw [if_neg z]
theorem op_cost (hI : Inv M) : Op_cost Inv M := by
  intro a b
  have hB := hI.bike
  have hC := hB.cb
  have hR := hB.1
  by_cases hw : ig (M 44) a = 0
  · refine op_pure hI (S := S_cost M a b) (v := -1000001) (fun Φ h => ?_) (SR := S_R_cost M a b) (fun Φ h => ?_) (SR' := fun M => S_R_cost M a b) rfl
    · exact v_hasGear hC hR.1.1 hR.1.2.1 a _ ⟨fun _ => h, fun n => absurd hw n⟩
    · exact vr_isGear M a _ ⟨fun _ => h, fun n => absurd hw n⟩
  by_cases hw2 : ig (M 44) b = 0
  · refine op_pure hI (S := S_cost M a b) (v := -1000001) (fun Φ h => ?_) (SR := S_R_cost M a b) (fun Φ h => ?_) (SR' := fun M => S_R_cost M a b) rfl
    · exact v_hasGear hC hR.1.1 hR.1.2.1 a _ ⟨fun n => absurd n hw, fun _ => v_hasGear hC hR.1.1 hR.1.2.1 b _ ⟨fun _ => h, fun n => absurd hw2 n⟩⟩
    · exact vr_isGear M a _ ⟨fun n => absurd n hw, fun _ => vr_isGear M b _ ⟨fun _ => h, fun n => absurd hw2 n⟩⟩
  obtain ⟨r, c, hr, hc, hr3, hc6, er, ec⟩ := gear_ix hC hw
  obtain ⟨r', c', hr', hc', hr3', hc6', er', ec'⟩ := gear_ix hC hw2
  have e7 : M 7 7 = M 44 6 := hR.1.2.2.2.2.2.2.1
  refine op_pure hI (S := S_cost M a b) (v := if bl (M 44) (M 44 6) c c' then -1000000 else rcst a b + su (M 44) c c') (fun Φ h => ?_) (SR := S_R_cost M a b) (fun Φ h => ?_) (SR' := fun M => S_R_cost M a b) rfl
  · refine v_hasGear hC hR.1.1 hR.1.2.1 a _ ⟨fun n => absurd n hw, fun _ => v_hasGear hC hR.1.1 hR.1.2.1 b _ ⟨fun n => absurd n hw2, fun _ => ?_⟩⟩
    unfold S_Bike_shiftCost
    rw [ec, ec', e7]
    refine v_cogCost (k := 7) (v := M 44) (fun c hc => (hR.2.2.1 c hc).1) hc hc' hc6 hc6' _ _ ?_
    have sb := su_bnd (M 44) hc6 hc6'
    by_cases hb : bl (M 44) (M 44 6) c c' = true
    · rw [if_pos hb] at h ⊢
      exact ⟨fun _ => h, fun z => absurd rfl z⟩
    · rw [if_neg hb] at h ⊢
      refine ⟨fun z => ?_, fun _ => v_ringCost a b _ ?_⟩
      · rw [z] at sb
        exact absurd sb.1 (by decide)
      · rw [Int32.add_comm]; exact h
  · exact vr_isGear M a _ ⟨fun n => absurd n hw, fun _ => vr_isGear M b _ ⟨fun n => absurd n hw2, fun _ => vr_costOf ec ec' hc6 hc6' _ _ h⟩⟩
end Costs
