/-! loops that count up; piece, rank, count -/
theorem lp_inv {α : Type} {F : (α → Prop) → α → Prop} (P : Nat → α → Prop) (h0 : ∀ a, P 0 a → ∀ rec : α → Prop, F rec a) (hs : ∀ i a, P (i + 1) a → ∀ rec : α → Prop, (∀ b, P i b → rec b) → F rec a) : ∀ i a, P i a → lp F (i + 1) a
  | 0, a, h => h0 a h _
  | i + 1, a, h => hs i a h _ (lp_inv P h0 hs i)
/-- as lp_inv, where a round may also end the loop -/
theorem lp_ex {α : Type} {F : (α → Prop) → α → Prop} (P : Nat → α → Prop) (h0 : ∀ a, P 0 a → ∀ rec : α → Prop, F rec a) (hs : ∀ i a, P (i + 1) a → ∀ rec : α → Prop, (∀ b, P i b → rec b) → F rec a) {i : Nat} {a : α} (h : P i a) : ∃ n, lp F n a := ⟨i + 1, lp_inv P h0 hs i a h⟩
def accN (f : Nat → Int32 → Int32) (z : Int32) : Nat → Int32
  | 0 => z
  | j + 1 => f j (accN f z j)
theorem nI_le_iff {a b : Nat} (ha : a < 2 ^ 31) (hb : b < 2 ^ 31) : (nI a ≤ nI b) ↔ a ≤ b := nI_leI ha hb
theorem nI_inc (j : Nat) : nI j + 1 = nI (j + 1) := nI_1 j
theorem nle {j : Nat} (n : Nat) (h : j < n) (hn : n < 2 ^ 31) : ¬ (nI n ≤ nI j) := nI_ge h hn
theorem gear_nI {j : Nat} (hj : j < 18) : nI j / 6 = nI (j / 6) ∧ irm (nI j) 6 = nI (j % 6) ∧ j / 6 < 3 ∧ j % 6 < 6 := by
  have e6 : (6 : Int32).toInt = 6 := by decide
  have t := nI_toInt (n := j) (by omega)
  have hdm := tI_dm (a := nI j) (d := 6) (by omega) (by decide)
  rw [e6, t] at hdm
  exact ⟨nI_of_toInt (by rw [hdm.1]; omega), nI_of_toInt (by rw [hdm.2]; omega), by omega, by omega⟩
theorem ig_nI {v : Nat → Int32} {j : Nat} (hj : j < 18) (h : ¬ ig v (nI j) = 0) : ((j / 6 : Nat) : Int) < (v 1).toInt ∧ ((j % 6 : Nat) : Int) < (v 2).toInt := by
  have h1 := ig_1 h
  rw [nI_toInt (by omega)] at h1
  omega
/-- is GEAR j borne on a slope -/
def bv (v : Nat → Int32) (j : Nat) (s : Int32) : Int32 := if ig v (nI j) = 0 then 0 else if v 0 < ldv v (j / 6) (j % 6) s then 0 else 1
section Loops
variable {M : Mm}
theorem v_bearsJ {k : Nat} {v : Nat → Int32} (hR : RelB (M k) (M (k + 1)) (M (k + 2)) (M (k + 3)) (M (k + 4)) (M (k + 5)) v) (hV : VB v) {j : Nat} (hj : j < 18) (s : Int32) : Val (S_Bike_bears k M (nI j) s) (bv v j s) := by
  obtain ⟨g1, g2, g3, g4⟩ := gear_nI hj
  by_cases hg : ig v (nI j) = 0
  · have e : bv v j s = 0 := by unfold bv; rw [if_pos hg]
    rw [e]; exact v_bears0 hV.cb hR.1.1 hR.1.2.1 hg
  · have e : bv v j s = if v 0 < ldv v (j / 6) (j % 6) s then 0 else 1 := by unfold bv; rw [if_neg hg]
    obtain ⟨q1, q2⟩ := ig_nI hj hg
    rw [e]; exact v_bears hR hV hg q1 q2 g3 g4 g1 g2
def orv (v : Nat → Int32) (s : Int32) (j : Nat) (x : Int32) : Int32 := if bv v j s = 0 then x else x ||| (1 <<< (nI j &&& 31))
theorem v_gearsBorne {k : Nat} {v : Nat → Int32} (hR : RelB (M k) (M (k + 1)) (M (k + 2)) (M (k + 3)) (M (k + 4)) (M (k + 5)) v) (hV : VB v) {p : Nat} (hp : p < 6) : Val (S_Bike_gearsBorne k M (nI p)) (accN (orv v (M (k + 5) p)) 0 18) := by
  intro Φ h
  refine lp_ex (fun i (a : Int32 × Int32 × Int32) => ∃ j, j + i = 18 ∧ a = (nI p, accN (orv v (M (k + 5) p)) 0 j, nI j)) ?_ ?_ (i := 18) ⟨0, rfl, rfl⟩
  · rintro a ⟨j, hj, rfl⟩ rec
    obtain rfl : j = 18 := by omega
    exact ⟨fun _ => h, fun n => absurd (by decide) n⟩
  · rintro i a ⟨j, hj, rfl⟩ rec hrec
    refine ⟨fun n => absurd n (nle 18 (by omega) (by decide)), fun _ => ⟨vp_in_nI hp (by decide), ?_⟩⟩
    rw [nI_clamp (by omega)]
    have key : ∀ x, accN (orv v (M (k + 5) p)) 0 (j + 1) = x → rec (nI p, x, nI j + 1) := fun x e => hrec _ ⟨j + 1, by omega, by rw [← e, nI_inc]⟩
    refine v_bearsJ hR hV (by omega) _ _ ⟨fun q => key _ ?_, fun q => key _ ?_⟩
    · rw [accN]; unfold orv; rw [if_pos q]
    · rw [accN]; unfold orv; rw [if_neg q]
theorem vr_bearsJ {k : Nat} (hV : VB (M k)) {j p : Nat} (hj : j < 18) (hp : p < 6) (hg : ¬ ig (M k) (nI j) = 0) : Val (S_R_bears k M (nI j) (nI p)) (bv (M k) j (M k (23 + p))) := by
  obtain ⟨g1, g2, g3, g4⟩ := gear_nI hj
  have e : bv (M k) j (M k (23 + p)) = if M k 0 < ldv (M k) (j / 6) (j % 6) (M k (23 + p)) then 0 else 1 := by unfold bv; rw [if_neg hg]
  obtain ⟨q1, q2⟩ := ig_nI hj hg
  rw [e]; exact vr_bears hV q1 q2 g3 g4 g1 g2 rfl hp
theorem vr_pieceLoop (hV : VB (M 44)) {p : Nat} (hp : p < 6) : Val (fun Φ => ∃ n, lp (D_R_piece_53 M Φ) n (nI p, 0, 0)) (accN (orv (M 44) (M 44 (23 + p))) 0 18) := by
  intro Φ h
  refine lp_ex (fun i (a : Int32 × Int32 × Int32) => ∃ j, j + i = 18 ∧ a = (nI p, accN (orv (M 44) (M 44 (23 + p))) 0 j, nI j)) ?_ ?_ (i := 18) ⟨0, rfl, rfl⟩
  · rintro a ⟨j, hj, rfl⟩ rec
    obtain rfl : j = 18 := by omega
    exact ⟨fun _ => h, fun n => absurd (by decide) n⟩
  · rintro i a ⟨j, hj, rfl⟩ rec hrec
    refine ⟨fun n => absurd n (nle 18 (by omega) (by decide)), fun _ => ?_⟩
    have key : ∀ x, accN (orv (M 44) (M 44 (23 + p))) 0 (j + 1) = x → rec (nI p, x, nI j + 1) := fun x e => hrec _ ⟨j + 1, by omega, by rw [← e, nI_inc]⟩
    refine vr_isGear M _ _ ⟨fun q => key _ ?_, fun q => vr_bearsJ hV (by omega) hp q _ ⟨fun q2 => key _ ?_, fun q2 => key _ ?_⟩⟩
    · rw [accN]; unfold orv bv; rw [if_pos (by rw [if_pos q]), Int32.or_zero]
    · rw [accN]; unfold orv; rw [if_pos q2, Int32.or_zero]
    · rw [accN]; unfold orv; rw [if_neg q2]
theorem Int.bike7 (hI : Inv M) : RelB (M 7) (M (7 + 1)) (M (7 + 2)) (M (7 + 3)) (M (7 + 4)) (M (7 + 5)) (M 44) := hI.bike.1
theorem op_piece (hI : Inv M) : Op_piece Inv M := by
  intro a w
  have hB := hI.bike
  obtain ⟨c1, c2, c3⟩ := hB.cb
  have hR := hB.1
  obtain ⟨⟨e1, e2, e3, e4, e5, e6, e7, e8⟩, hr, hc, hs⟩ := hB.1
  by_cases hw : wi a 0 (M 44 3 - 1) = 0
  · refine op_pure hI (S := S_piece M a w) (v := -1000001) (fun Φ h => ?_) (SR := S_R_piece M a w) (fun Φ h => ?_) (SR' := fun M => S_R_piece M a w) rfl
    · exact v_hasPiece 7 M a _ ⟨fun _ => h, fun n => absurd (by rw [e3]; exact hw) n⟩
    · exact vr_isPiece M _ _ ⟨fun _ => h, fun n => absurd hw n⟩
  · obtain ⟨i, rfl, hi⟩ := wi_nI c3.1 hw
    have hi6 : i < 6 := by omega
    have hV := hB.good (Or.inr (Or.inr (Or.inl (by omega))))
    have q := hs i hi
    have e23 : (23 : Int32) + nI i = nI (23 + i) := nI8 23 rfl
    obtain ⟨hg, r, c, hr1, hc1, hr3, hc6, er, ec, -, -⟩ := gear_now hV (a := 6 * M 44 4 + M 44 5) rfl
    refine op_pure hI (S := S_piece M (nI i) w) (v := if w = 0 then M 44 (23 + i) else if w = 1 then accN (orv (M 44) (M 44 (23 + i))) 0 18 else if w = 2 then ldv (M 44) r c (M 44 (23 + i)) else -1000001) (fun Φ h => ?_) (SR := S_R_piece M (nI i) w) (fun Φ h => ?_) (SR' := fun M => S_R_piece M (nI i) w) rfl
    · refine v_hasPiece 7 M _ _ ⟨fun n => absurd n (by rw [e3]; exact hw), fun _ => ?_⟩
      rw [nI_clamp (by omega)]
      refine ⟨fun h0 => ?_, fun h0 => ⟨fun h1 => ?_, fun h1 => ⟨fun h2 => ?_, fun h2 => ?_⟩⟩⟩
      · rw [if_pos h0] at h; rw [q]; exact ⟨vp_in_nI hi6 (by decide), h⟩
      · rw [if_neg h0, if_pos h1, ← q] at h
        exact v_gearsBorne hR hV hi6 _ h
      · rw [if_neg h0, if_neg h1, if_pos h2, ← q] at h
        show vp_in _ _ ∧ _
        refine ⟨vp_in_nI hi6 (by decide), ?_⟩
        have ea : M 7 5 * 6 + M 7 6 = 6 * M 44 4 + M 44 5 := by rw [e5, e6, Int32.mul_comm]
        rw [ea]
        exact v_loadOf hR hV hg hr1 hc1 hr3 hc6 er ec _ h
      · rw [if_neg h0, if_neg h1, if_neg h2] at h; exact h
    · refine vr_isPiece M _ _ ⟨fun n => absurd n hw, fun _ => ?_⟩
      rw [e23, nI_clamp (by omega)]
      refine ⟨fun h0 => ?_, fun h0 => ⟨fun h1 => ?_, fun h1 => ⟨fun h2 => ?_, fun h2 => ?_⟩⟩⟩
      · rw [if_pos h0] at h; exact ⟨vp_in_nI (by omega) (by decide), h⟩
      · rw [if_neg h0, if_pos h1] at h
        exact vr_pieceLoop hV hi6 _ h
      · rw [if_neg h0, if_neg h1, if_pos h2] at h
        refine ⟨vp_in_nI (by omega) (by decide), ?_⟩
        exact vr_loadOf hV hr1 hc1 hr3 hc6 er ec _ h
      · rw [if_neg h0, if_neg h1, if_neg h2] at h; exact h
/-- how many ROWS there are -/
def cntR (ln : Nat → Int32) (j : Nat) (x : Int32) : Int32 := if ln j = -1 then x else x + 1
theorem v_howMany (hI : Inv M) : Val (S_Rows_howMany M) (accN (cntR (M 40)) 0 8) := by
  intro Φ h
  refine lp_ex (fun i (a : Int32 × Int32) => ∃ j, j + i = 8 ∧ a = (accN (cntR (M 40)) 0 j, nI j)) ?_ ?_ (i := 8) ⟨0, rfl, rfl⟩
  · rintro a ⟨j, hj, rfl⟩ rec
    obtain rfl : j = 8 := by omega
    exact ⟨fun _ => h, fun n => absurd (by decide) n⟩
  · rintro i a ⟨j, hj, rfl⟩ rec hrec
    have key : ∀ x, accN (cntR (M 40)) 0 (j + 1) = x → rec (x, nI j + 1) := fun x e => hrec _ ⟨j + 1, by omega, by rw [← e, nI_inc]⟩
    have e := (hI.1.2 j (by omega)).1
    refine ⟨fun n => absurd n (nle 8 (by omega) (by decide)), fun _ => ⟨vp_in_nI (by omega) (by decide), ?_⟩⟩
    rw [nI_clamp (by omega), e]
    refine ⟨fun q => ⟨fun n => absurd n (by decide), fun _ => key _ ?_⟩, fun q => ⟨fun _ => key _ ?_, fun n => absurd rfl n⟩⟩
    · rw [accN]; unfold cntR; rw [if_pos q]
    · rw [accN]; unfold cntR; rw [if_neg q]
theorem vr_howMany (hI : Inv M) : Val (fun Φ => ∃ n, lp (D_R_count_58 M Φ) n (0, 0)) (accN (cntR (M 40)) 0 8) := by
  intro Φ h
  refine lp_ex (fun i (a : Int32 × Int32) => ∃ j, j + i = 8 ∧ a = (accN (cntR (M 40)) 0 j, nI j)) ?_ ?_ (i := 8) ⟨0, rfl, rfl⟩
  · rintro a ⟨j, hj, rfl⟩ rec
    obtain rfl : j = 8 := by omega
    exact ⟨fun _ => h, fun n => absurd (by decide) n⟩
  · rintro i a ⟨j, hj, rfl⟩ rec hrec
    have key : ∀ x, accN (cntR (M 40)) 0 (j + 1) = x → rec (x, nI j + 1) := fun x e => hrec _ ⟨j + 1, by omega, by rw [← e, nI_inc]⟩
    have e := (hI.1.2 j (by omega)).2.2.1
    have e0 : (0 : Int32).toInt = 0 := by decide
    have em : (-1 : Int32).toInt = -1 := by decide
    refine ⟨fun n => absurd n (nle 8 (by omega) (by decide)), fun _ => ⟨vp_in_nI (by omega) (by decide), ?_⟩⟩
    rw [nI_clamp (by omega)]
    refine ⟨fun q => key _ ?_, fun q => key _ ?_⟩
    · rw [tI_lt, e0] at q
      rw [accN]; unfold cntR; rw [if_pos (by rw [tI_eq, em]; omega), Int32.add_zero]
    · rw [tI_lt, e0] at q
      rw [accN]; unfold cntR; rw [if_neg (by rw [tI_eq, em]; omega)]
theorem op_count (hI : Inv M) : Op_count Inv M := by
  intro a
  have hB := hI.bike
  obtain ⟨⟨e1, e2, e3, e4, e5, e6, e7, e8⟩, hr, hc, hs⟩ := hB.1
  have ea : M 7 5 * 6 + M 7 6 = 6 * M 44 4 + M 44 5 := by rw [e5, e6, Int32.mul_comm]
  have eA : M 32 1 = M 39 9 := hI.2.2.2.2.1.1
  have eT : M 5 1 = M 39 13 := hI.2.1.1
  refine op_pure hI (S := S_count M a) (v := if a = 0 then accN (cntR (M 40)) 0 8 else if a = 1 then M 44 2 else if a = 2 then M 44 1 else if a = 3 then M 44 3 else if a = 4 then M 44 0 else if a = 5 then 6 * M 44 4 + M 44 5 else if a = 6 then M 44 6 else if a = 7 then M 44 7 else if a = 8 then M 39 9 else if a = 9 then M 39 13 else -1000001) (fun Φ h => ?_) (SR := S_R_count M a) (fun Φ h => ?_) (SR' := fun M => S_R_count M a) rfl
  · unfold S_count S_Bike_gear
    rw [e1, e2, e3, e4, ea, e7, e8, eA, eT]
    refine ⟨fun h0 => ?_, fun h0 => ⟨fun h1 => ?_, fun h1 => ⟨fun h2 => ?_, fun h2 => ⟨fun h3 => ?_, fun h3 => ⟨fun h4 => ?_, fun h4 => ⟨fun h5 => ?_, fun h5 => ⟨fun h6 => ?_, fun h6 => ⟨fun h7 => ?_, fun h7 => ⟨fun h8 => ?_, fun h8 => ⟨fun h9 => ?_, fun h9 => ?_⟩⟩⟩⟩⟩⟩⟩⟩⟩⟩
    · rw [if_pos h0] at h; exact v_howMany hI _ h
    · rw [if_neg h0, if_pos h1] at h; exact h
    · rw [if_neg h0, if_neg h1, if_pos h2] at h; exact h
    · rw [if_neg h0, if_neg h1, if_neg h2, if_pos h3] at h; exact h
    · rw [if_neg h0, if_neg h1, if_neg h2, if_neg h3, if_pos h4] at h; exact h
    · rw [if_neg h0, if_neg h1, if_neg h2, if_neg h3, if_neg h4, if_pos h5] at h; exact h
    · rw [if_neg h0, if_neg h1, if_neg h2, if_neg h3, if_neg h4, if_neg h5, if_pos h6] at h; exact h
    · rw [if_neg h0, if_neg h1, if_neg h2, if_neg h3, if_neg h4, if_neg h5, if_neg h6, if_pos h7] at h; exact h
    · rw [if_neg h0, if_neg h1, if_neg h2, if_neg h3, if_neg h4, if_neg h5, if_neg h6, if_neg h7, if_pos h8] at h; exact h
    · rw [if_neg h0, if_neg h1, if_neg h2, if_neg h3, if_neg h4, if_neg h5, if_neg h6, if_neg h7, if_neg h8, if_pos h9] at h; exact h
    · rw [if_neg h0, if_neg h1, if_neg h2, if_neg h3, if_neg h4, if_neg h5, if_neg h6, if_neg h7, if_neg h8, if_neg h9] at h; exact h
  · refine ⟨fun h0 => ?_, fun h0 => ⟨fun h1 => ?_, fun h1 => ⟨fun h2 => ?_, fun h2 => ⟨fun h3 => ?_, fun h3 => ⟨fun h4 => ?_, fun h4 => ⟨fun h5 => ?_, fun h5 => ⟨fun h6 => ?_, fun h6 => ⟨fun h7 => ?_, fun h7 => ⟨fun h8 => ?_, fun h8 => ⟨fun h9 => ?_, fun h9 => ?_⟩⟩⟩⟩⟩⟩⟩⟩⟩⟩
    · rw [if_pos h0] at h; exact vr_howMany hI _ h
    · rw [if_neg h0, if_pos h1] at h; exact h
    · rw [if_neg h0, if_neg h1, if_pos h2] at h; exact h
    · rw [if_neg h0, if_neg h1, if_neg h2, if_pos h3] at h; exact h
    · rw [if_neg h0, if_neg h1, if_neg h2, if_neg h3, if_pos h4] at h; exact h
    · rw [if_neg h0, if_neg h1, if_neg h2, if_neg h3, if_neg h4, if_pos h5] at h; exact h
    · rw [if_neg h0, if_neg h1, if_neg h2, if_neg h3, if_neg h4, if_neg h5, if_pos h6] at h; exact h
    · rw [if_neg h0, if_neg h1, if_neg h2, if_neg h3, if_neg h4, if_neg h5, if_neg h6, if_pos h7] at h; exact h
    · rw [if_neg h0, if_neg h1, if_neg h2, if_neg h3, if_neg h4, if_neg h5, if_neg h6, if_neg h7, if_pos h8] at h; exact h
    · rw [if_neg h0, if_neg h1, if_neg h2, if_neg h3, if_neg h4, if_neg h5, if_neg h6, if_neg h7, if_neg h8, if_pos h9] at h; exact h
    · rw [if_neg h0, if_neg h1, if_neg h2, if_neg h3, if_neg h4, if_neg h5, if_neg h6, if_neg h7, if_neg h8, if_neg h9] at h; exact h
end Loops
