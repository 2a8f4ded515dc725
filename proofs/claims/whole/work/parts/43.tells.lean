/-! PLAN, LEAST: the reference -/
theorem ix18 (p g : Nat) : 18 * nI p + nI g = nI (18 * p + g) := by rw [show (18 : Int32) = nI 18 from rfl, pk_mul, nI_add]
theorem ix18r (p g : Nat) : nI p * 18 + nI g = nI (18 * p + g) := by rw [show (18 : Int32) = nI 18 from rfl, pk_mul, nI_add, Nat.mul_comm]
def RD (v : Nat → Int32) (s : Int32) (n : Nat) (F : Nat → Int32) (k : Nat) : Prop := ∀ p g, k ≤ p → p ≤ n → g < 18 → F (18 * p + g) = rs v s n (n - p) g
section RefPlan
variable {M : Mm} {v : Nat → Int32}
theorem vr_costBy (hv : M 44 = v) (hV : VB v) (s : Int32) {p f t : Nat} (hp : p < 6) (hf : f < 18) (hlt : t < 18) (hg : ¬ ig v (nI t) = 0) : Val (S_R_costBy M (nI p) (nI f) (nI t) s) (cb v s p f t (fun g => M 50 (18 * (p + 1) + g))) := by
  intro Φ h
  subst hv
  obtain ⟨f1, f2, f3, f4⟩ := gear_nI hf
  obtain ⟨g1, g2, g3, g4⟩ := gear_nI hlt
  obtain ⟨q1, q2⟩ := ig_nI hlt hg
  have e23 : (23 : Int32) + nI p = nI (23 + p) := nI8 23 rfl
  have e18 : (18 : Int32) * (nI p + 1) + nI t = nI (18 * (p + 1) + t) := by rw [nI_inc]; exact ix18 _ _
  have sb := su_bnd (M 44) (f := f % 6) (t := t % 6) f4 g4
  have rb := rcst_b hf hlt
  unfold cb at h
  unfold S_R_costBy
  rw [e23, e18, nI_clamp (by omega), nI_clamp (by omega)]
  refine vr_costOf f2 g2 f4 g4 _ _ ?_
  by_cases hb : bl (M 44) (nI p) (f % 6) (t % 6) = true
  · rw [if_pos (Or.inr (Or.inl hb))] at h
    rw [if_pos hb]
    exact ht rfl h
  · rw [if_neg hb]
    have ne : ¬ rcst (nI f) (nI t) + su (M 44) (f % 6) (t % 6) = -1000000 := fun z => by
      have e : (rcst (nI f) (nI t) + su (M 44) (f % 6) (t % 6)).toInt = (rcst (nI f) (nI t)).toInt + (su (M 44) (f % 6) (t % 6)).toInt := tI_add (by omega) (by omega)
      rw [z, show (-1000000 : Int32).toInt = -1000000 by decide] at e
      omega
    refine sk ne ⟨vp_in_nI (by omega) (by decide), vr_loadOf hV q1 q2 g3 g4 g1 g2 _ ?_⟩
    by_cases hl : s < ldv (M 44) (t / 6) (t % 6) (M 44 (23 + p))
    · rw [if_pos (Or.inr (Or.inr (Or.inl hl)))] at h
      exact ht hl h
    · refine sk hl ⟨vp_in_nI (by omega) (by decide), ?_⟩
      by_cases hr : M 50 (18 * (p + 1) + t) < 1000000000
      · rw [if_neg (fun z => z.elim hg (fun z => z.elim hb (fun z => z.elim hl (fun z => z hr))))] at h
        exact ht hr (vr_turnsOf hV q1 q2 g3 g4 g1 g2 _ ⟨vp_in_nI (by omega) (by decide), h⟩)
      · rw [if_pos (Or.inr (Or.inr (Or.inr hr)))] at h
        exact sk hr h
theorem vr_trBest (hv : M 44 = v) (hV : VB v) {s : Int32} {n p j : Nat} (hn : n ≤ 6) (hp : p < n) (hj : j < 18) (hF : RD v s n (M 50) (p + 1)) {Φ : Mm → Prop} {rec40 : Int32 × Int32 × Mm → Prop} {rec53 : Int32 × Int32 × Int32 × Mm → Prop} (k : rec53 (s, nI p, nI j + 1, mu M 50 (18 * p + j) (rs v s n (n - p) j))) : ∃ m, lp (D_R_tellRest_66 Φ rec40 rec53) m (s, nI p, nI j, 1000000000, 0, M) := by
  rw [rs_at v s hp] at k
  have vi : ∀ a, Val (S_R_isGear M a) (ig v a) := fun a => by rw [← hv]; exact vr_isGear M a
  have fin : ∀ x, rec53 (s, nI p, nI j + 1, mu M 50 (18 * p + j) x) → D_R_tellRest_128 Φ rec40 rec53 (s, nI p, nI j, x, M) := by
    intro x kx
    rw [D_R_tellRest_128, ix18, nI_clamp (by omega)]
    exact ⟨vp_in_nI (by omega) (by decide), fun M5 e5 => by rw [e5]; exact kx⟩
  by_cases hi : ig v (nI j) = 0
  · rw [if_pos hi] at k
    exact ⟨1, sk (by decide) (vi _ _ (ht hi (fin _ k)))⟩
  · rw [if_neg hi] at k
    have hf : ∀ t, t < 18 → cb v s p j t (fun g => M 50 (18 * (p + 1) + g)) = cb v s p j t (rs v s n (n - (p + 1))) := fun t h18 => cb_congr v s p j t (hF (p + 1) t (by omega) (by omega) h18)
    refine lp_ex (fun q (a : Int32 × Int32 × Int32 × Int32 × Int32 × Mm) => ∃ i, i + q = 18 ∧ a = (s, nI p, nI j, mn (fun t => cb v s p j t (rs v s n (n - (p + 1)))) i, nI i, M)) ?_ ?_ (i := 18) ⟨0, rfl, rfl⟩
    · rintro a ⟨i, h18, rfl⟩ rec
      obtain rfl : i = 18 := by omega
      exact ht (by decide) (fin _ k)
    · rintro q a ⟨i, h18, rfl⟩ rec hrec
      have nx : ∀ x, x = cb v s p j i (rs v s n (n - (p + 1))) → D_R_tellRest_104 Φ rec40 rec53 rec (s, nI p, nI j, mn (fun t => cb v s p j t (rs v s n (n - (p + 1)))) i, nI i, x, M) := by
        intro x ex
        have fin2 : ∀ y, mn (fun t => cb v s p j t (rs v s n (n - (p + 1)))) (i + 1) = y → D_R_tellRest_120 Φ rec40 rec53 rec (s, nI p, nI j, nI i, y, M) := fun y ey => hrec _ ⟨i + 1, by omega, by rw [ey, nI_inc]⟩
        refine ⟨fun z => fin2 _ ?_, fun z => fin2 _ ?_⟩
        · rw [mn, ← ex, if_pos z]
        · rw [mn, ← ex, if_neg z]
      refine sk (nle 18 (by omega) (by decide)) (vi _ _ (sk hi (vi _ _ ⟨fun z => nx _ ?_, fun z => vr_costBy hv hV s (by omega) hj (by omega) z _ (nx _ (hf i (by omega)))⟩)))
      unfold cb; rw [if_pos (Or.inl z)]
theorem vr_trRow (hv : M 44 = v) (hV : VB v) {s : Int32} {n p : Nat} (hn : n ≤ 6) (hp : p < n) {F0 : Nat → Int32} (hF : RD v s n F0 (p + 1)) {Φ : Mm → Prop} {rec40 : Int32 × Int32 × Mm → Prop} (k : ∀ F, RD v s n F p → rec40 (s, nI p + (-1), ms M 50 F)) : ∃ m, lp (D_R_tellRest_53 Φ rec40) m (s, nI p, 0, ms M 50 F0) := by
  refine lp_ex (fun q (a : Int32 × Int32 × Int32 × Mm) => ∃ j F, j + q = 18 ∧ a = (s, nI p, nI j, ms M 50 F) ∧ RD v s n F (p + 1) ∧ ∀ g, g < j → F (18 * p + g) = rs v s n (n - p) g) ?_ ?_ (i := 18) ⟨0, F0, rfl, rfl, hF, fun g h => absurd h (by omega)⟩
  · rintro a ⟨j, F, hj, rfl, h1, h2⟩ rec
    obtain rfl : j = 18 := by omega
    refine ht (by decide) (k F (fun p' g a1 a2 a3 => ?_))
    by_cases e : p' = p
    · rw [e]; exact h2 g a3
    · exact h1 p' g (by omega) a2 a3
  · rintro q a ⟨j, F, hj, rfl, h1, h2⟩ rec hrec
    refine sk (nle 18 (by omega) (by decide)) (vr_trBest (M := ms M 50 F) hv hV hn hp (by omega) h1 (hrec _ ⟨j + 1, upd F (18 * p + j) (rs v s n (n - p) j), by omega, ?_, ?_, ?_⟩))
    · rw [mu_ms, nI_inc]
    · intro p' g a1 a2 a3
      rw [pk_un (by omega)]; exact h1 p' g a1 a2 a3
    · intro g hg
      by_cases e : g = j
      · rw [e, pk_us]
      · rw [pk_un (by omega)]; exact h2 g (by omega)
theorem nI_m1 (k : Nat) : nI k + (-1) = nI k - 1 := by rw [Int32.sub_eq_add_neg]
theorem lt_m1 {k a : Nat} (hk : k < 100) (ha : a < 100) : (nI k - 1 < nI a) ↔ k ≤ a := by
  have g1 := nI_toInt (n := k) (by omega)
  have g2 := nI_toInt (n := a) (by omega)
  rw [tI_lt, sub1 (by omega), g1, g2]; omega
theorem vr_trAll (hv : M 44 = v) (hV : VB v) {s : Int32} {n a : Nat} (ea : v 6 = nI a) (hn : n ≤ 6) (han : a ≤ n) {F0 : Nat → Int32} (hF : RD v s n F0 n) (Φ : Mm → Prop) (k : ∀ F, RD v s n F a → Φ (ms M 50 F)) : ∃ m, lp (D_R_tellRest_40 Φ) m (s, nI n - 1, ms M 50 F0) := by
  have c6 : ∀ F, ms M 50 F 44 (Int32.toNatClampNeg 6) = nI a := fun F => by
    rw [← ea, ← hv]; rfl
  refine lp_ex (fun q (st : Int32 × Int32 × Mm) => ∃ c F, c = a + q ∧ c ≤ n ∧ st = (s, nI c - 1, ms M 50 F) ∧ RD v s n F c) ?_ ?_ (i := n - a) ⟨n, F0, by omega, by omega, rfl, hF⟩
  · rintro st ⟨c, F, hc, hcn, rfl, h1⟩ rec
    obtain rfl : c = a := by omega
    rw [D_R_tellRest_40, c6]
    exact ht ((lt_m1 (by omega) (by omega)).mpr (by omega)) (k F h1)
  · rintro q st ⟨c, F, hc, hcn, rfl, h1⟩ rec hrec
    obtain rfl : c = (a + q) + 1 := by omega
    rw [D_R_tellRest_40, c6]
    refine sk (fun z => absurd ((lt_m1 (by omega) (by omega)).mp z) (by omega)) ?_
    rw [nI_pred]
    refine vr_trRow hv hV hn (by omega) h1 (fun F' h' => hrec _ ⟨a + q, F', rfl, by omega, by rw [nI_m1], h'⟩)
theorem vr_tellRest (hv : M 44 = v) (hV : VB v) {s : Int32} {n a : Nat} (en : v 3 = nI n) (ea : v 6 = nI a) (hn : n ≤ 6) (han : a ≤ n) (Φ : Mm → Prop) (k : ∀ F, RD v s n F a → Φ (ms M 50 F)) : S_R_tellRest M s Φ := by
  have c3 : ∀ F, ms M 50 F 44 (Int32.toNatClampNeg 3) = nI n := fun F => by
    rw [← en, ← hv]; rfl
  refine lp_ex (fun q (st : Int32 × Int32 × Mm) => ∃ j F, j + q = 18 ∧ st = (s, nI j, ms M 50 F) ∧ ∀ g, g < j → F (18 * n + g) = 0) ?_ ?_ (i := 18) ⟨0, M 50, rfl, by rw [ms_self]; rfl, fun g h => absurd h (by omega)⟩
  · rintro st ⟨j, F, hj, rfl, h1⟩ rec
    obtain rfl : j = 18 := by omega
    rw [D_R_tellRest_2, c3]
    refine ht (by decide) (vr_trAll hv hV ea hn han (fun p g a1 a2 a3 => ?_) Φ k)
    obtain rfl : p = n := by omega
    rw [rs_0]; exact h1 g a3
  · rintro q st ⟨j, F, hj, rfl, h1⟩ rec hrec
    rw [D_R_tellRest_2, c3, ix18, nI_clamp (by omega)]
    refine sk (nle 18 (by omega) (by decide)) ⟨vp_in_nI (by omega) (by decide), fun M4 e4 => hrec _ ⟨j + 1, upd F (18 * n + j) 0, by omega, by rw [e4, mu_ms, nI_inc], fun g hg => ?_⟩⟩
    by_cases e : g = j
    · rw [e, pk_us]
    · rw [pk_un (by omega)]; exact h1 g (by omega)
/-- the GEAR as it is, as a number -/
theorem gear_18 (hV : VB v) : ∃ g : Nat, g < 18 ∧ 6 * v 4 + v 5 = nI g ∧ ¬ ig v (nI g) = 0 := by
  obtain ⟨hg, r, c, hr, hc, hr3, hc6, er, ec, e4, e5⟩ := gear_now hV (a := 6 * v 4 + v 5) rfl
  have e : 6 * v 4 + v 5 = nI (6 * r + c) := by rw [e4, e5, show (6 : Int32) = nI 6 from rfl, pk_mul, nI_add]
  exact ⟨6 * r + c, by omega, e, by rw [← e]; exact hg⟩
def lsv (x : Int32) : Int32 := if x ≤ 99 then x else -1000000
theorem vr_least (hv : M 44 = v) (hV : VB v) {n a g : Nat} (en : v 3 = nI n) (ea : v 6 = nI a) (hn : n ≤ 6) (han : a ≤ n) (hg : g < 18) (eg : 6 * v 4 + v 5 = nI g) (hi : ¬ ig v (nI g) = 0) (Φ : Int32 → Mm → Prop) (k : ∀ F, Φ (lsv (sn v n (n - a) g)) (ms M 50 F)) : ∃ m, lp (D_R_least_12 Φ) m (1, M) := by
  have e99 : (99 : Int32).toInt = 99 := by decide
  refine lp_ex (fun q (st : Int32 × Mm) => ∃ s F, s + q = 100 ∧ 1 ≤ s ∧ st = (nI s, ms M 50 F) ∧ (s : Int) ≤ (sn v n (n - a) g).toInt) ?_ ?_ (i := 99) ⟨1, M 50, rfl, by omega, by rw [ms_self]; rfl, sn_pos v n (n - a) g⟩
  · rintro st ⟨s, F, hs, h1, rfl, h2⟩ rec
    obtain rfl : s = 100 := by omega
    have kk := k F
    unfold lsv at kk
    rw [if_neg (by rw [tI_le, e99]; omega)] at kk
    exact ht (by decide) kk
  · rintro q st ⟨s, F, hs, h1, rfl, h2⟩ rec hrec
    have gs := nI_toInt (n := s) (by omega)
    refine sk (by rw [tI_lt, e99, gs]; omega) (vr_tellRest (M := ms M 50 F) (s := nI s) hv hV en ea hn han _ (fun F' hF => ?_))
    have e1 : ms (ms M 50 F) 50 F' = ms M 50 F' := ms_ms _ _ _ _
    rw [e1]
    have c6 : ms M 50 F' 44 (Int32.toNatClampNeg 6) = nI a := by rw [← ea, ← hv]; rfl
    have cg : 6 * ms M 50 F' 44 (Int32.toNatClampNeg 4) + ms M 50 F' 44 (Int32.toNatClampNeg 5) = nI g := by rw [← eg, ← hv]; rfl
    unfold S_R_gearOf
    rw [cg, c6]
    dsimp only
    rw [ix18, nI_clamp (by omega), ms_at, hF a g (by omega) han hg]
    have key := sn_rs hV (s := nI s) (by omega) (by omega) n (n - a) g (by omega) hg hi
    rw [gs] at key
    refine ⟨vp_in_nI (by omega) (by decide), fun z => hrec _ ⟨s + 1, F', by omega, by omega, by rw [nI_inc], ?_⟩, fun z => ?_⟩
    · rw [tI_le, far_i] at z
      rw [tI_lt, far_i] at key
      have : ¬ (sn v n (n - a) g).toInt ≤ s := fun q => by have := key.mpr q; omega
      omega
    · rw [tI_le, far_i] at z
      have hl := key.mp (by rw [tI_lt, far_i]; omega)
      have es : sn v n (n - a) g = nI s := nI_of_toInt (by omega)
      have kk := k F'
      unfold lsv at kk
      rw [es, if_pos (by rw [tI_le, e99, gs]; omega)] at kk
      exact kk
end RefPlan
