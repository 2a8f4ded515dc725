/-! PLAN: the class -/
def ND (v : Nat → Int32) (s : Int32) (n : Nat) (N : Nat → Int32) (k : Nat) : Prop := ∀ p g, k ≤ p → p < n → g < 18 → N (18 * p + g) = nt v s p g (rs v s n (n - (p + 1)))
section Foresee
variable {M : Mm} {v : Nat → Int32}
theorem v_tbRow (hV : VB v) {m : Nat} (e2 : v 2 = nI m) (hm : m ≤ 6) (hC : CD v m (M 35) 72) {s : Int32} {n p g : Nat} (hn : n ≤ 6) (hp : p < n) (hg : g < 18) (hi : ¬ ig v (nI g) = 0) {k : Nat} (hk : k ≤ p) (hN : ND v s n (M 36) k) : ∀ t, t < 18 → Val (S_Plan_turnsBy M (nI p) (nI g) (nI t)) (cb v s p g t (rs v s n (n - (p + 1)))) := fun t h18 =>
  v_turnsByP hV e2 hm hC (by omega) hg h18 hi (b := 279 * ((n - (p + 1) : Nat) : Int)) (by omega) (rs_br hV s n (n - (p + 1)) t (by omega) h18) (hN p t hk hp h18)
theorem v_onward (hR : RelB (M 7) (M 8) (M 9) (M 10) (M 11) (M 12) v) (hV : VB v) {m : Nat} (e2 : v 2 = nI m) (hm : m ≤ 6) (hC : CD v m (M 35) 72) {s : Int32} {n p g : Nat} (en : v 3 = nI n) (hn : n ≤ 6) (hp : p ≤ n) (hg : g < 18) (hi : ¬ ig v (nI g) = 0) (hN : ND v s n (M 36) p) : Val (S_Plan_turnsOnward M (nI p) (nI g)) (rs v s n (n - p) g) := by
  intro Φ h
  have c3 : M 7 3 = nI n := by rw [← en]; exact hR.1.2.2.1
  unfold S_Plan_turnsOnward
  rw [c3]
  by_cases hpn : p < n
  · rw [rs_at v s hpn, if_neg hi] at h
    exact ht (nI_lt hpn (by omega)) (v_best2 (v_tbRow hV e2 hm hC hn hpn hg hi (Nat.le_refl _) hN) Φ h)
  · obtain rfl : p = n := by omega
    rw [rs_0] at h
    exact sk (nI_nlt (Nat.le_refl _) (by omega)) h
theorem v_tfr (hR : RelB (M 7) (M 8) (M 9) (M 10) (M 11) (M 12) v) (hV : VB v) {m : Nat} (e2 : v 2 = nI m) (hm : m ≤ 6) (hC : CD v m (M 35) 72) {n p g : Nat} (en : v 3 = nI n) (hn : n ≤ 6) (hp : p < n) (hg : g < 18) (hN : ND v (v 0) n (M 36) (p + 1)) : Val (S_Plan_turnsFromRide M (nI p) (nI g)) (nt v (v 0) p g (rs v (v 0) n (n - (p + 1)))) := by
  intro Φ h
  have t3 : (v 3).toInt = n := by rw [en]; exact nI_toInt (by omega)
  obtain ⟨g1, g2, g3, g4⟩ := gear_nI hg
  unfold S_Plan_turnsFromRide
  rw [nI_clamp (by omega), hR.2.2.2 p (by omega), nI_inc]
  refine ⟨vp_in_nI (by omega) (by decide), v_bearsJ (k := 7) hR hV hg _ _ ?_⟩
  unfold nt at h
  unfold bv
  by_cases hi : ig v (nI g) = 0
  · rw [if_pos hi]
    rw [if_pos (Or.inl hi)] at h
    exact ht rfl h
  · rw [if_neg hi]
    obtain ⟨q1, q2⟩ := ig_nI hg hi
    by_cases hl : v 0 < ldv v (g / 6) (g % 6) (v (23 + p))
    · rw [if_pos hl]
      rw [if_pos (Or.inr (Or.inl hl))] at h
      exact ht rfl h
    · rw [if_neg hl]
      refine sk (by decide) (v_onward hR hV e2 hm hC en hn (by omega) hg hi hN _ ?_)
      have hb := rs_br hV (v 0) n (n - (p + 1)) g (by omega) hg
      by_cases hz : rs v (v 0) n (n - (p + 1)) g = 1000000000
      · rw [if_pos (Or.inr (Or.inr (by rw [hz]; decide)))] at h
        exact ht hz h
      · have hlt := hb.lt (by omega) hz
        rw [if_neg (fun z => z.elim hi (fun z => z.elim hl (fun z => z hlt)))] at h
        exact sk hz (v_turnsOf (k := 7) hR hV hi q1 q2 g3 g4 g1 g2 _ h)
theorem v_fsRow (hR : RelB (M 7) (M 8) (M 9) (M 10) (M 11) (M 12) v) (hV : VB v) {m : Nat} (e2 : v 2 = nI m) (hm : m ≤ 6) (hC : CD v m (M 35) 72) {n p : Nat} (en : v 3 = nI n) (hn : n ≤ 6) (hp : p < n) {N0 : Nat → Int32} (hN : ND v (v 0) n N0 (p + 1)) {Φ : Mm → Prop} {rec12 : Int32 × Mm → Prop} (k : ∀ N, ND v (v 0) n N p → rec12 (nI p + (-1), ms M 36 N)) : ∃ l, lp (D_Plan_foreseeTurns_22 Φ rec12) l (nI p, 0, ms M 36 N0) := by
  refine lp_ex (fun q (a : Int32 × Int32 × Mm) => ∃ j N, j + q = 18 ∧ a = (nI p, nI j, ms M 36 N) ∧ ND v (v 0) n N (p + 1) ∧ ∀ g, g < j → N (18 * p + g) = nt v (v 0) p g (rs v (v 0) n (n - (p + 1)))) ?_ ?_ (i := 18) ⟨0, N0, rfl, rfl, hN, fun g h => absurd h (by omega)⟩
  · rintro a ⟨j, N, hj, rfl, h1, h2⟩ rec
    obtain rfl : j = 18 := by omega
    refine ht (by decide) (k N (fun p' g a1 a2 a3 => ?_))
    by_cases e : p' = p
    · rw [e]; exact h2 g a3
    · exact h1 p' g (by omega) a2 a3
  · rintro q a ⟨j, N, hj, rfl, h1, h2⟩ rec hrec
    rw [D_Plan_foreseeTurns_22]
    refine sk (nle 18 (by omega) (by decide)) (v_tfr (M := ms M 36 N) hR hV e2 hm hC en hn hp (by omega) h1 _ ?_)
    rw [ix18r, nI_clamp (by omega)]
    refine ⟨vp_in_nI (by omega) (by decide), fun M5 e5 => hrec _ ⟨j + 1, upd N (18 * p + j) (nt v (v 0) p j (rs v (v 0) n (n - (p + 1)))), by omega, ?_, ?_, ?_⟩⟩
    · rw [e5, mu_ms, nI_inc]
    · intro p' g a1 a2 a3
      rw [pk_un (by omega)]; exact h1 p' g a1 a2 a3
    · intro g hg
      by_cases e : g = j
      · rw [e, pk_us]
      · rw [pk_un (by omega)]; exact h2 g (by omega)
theorem v_fsAll (hR : RelB (M 7) (M 8) (M 9) (M 10) (M 11) (M 12) v) (hV : VB v) {m : Nat} (e2 : v 2 = nI m) (hm : m ≤ 6) (hC : CD v m (M 35) 72) {n a : Nat} (en : v 3 = nI n) (ea : v 6 = nI a) (hn : n ≤ 6) (han : a ≤ n) (Φ : Mm → Prop) (k : ∀ N, ND v (v 0) n N a → Φ (ms M 36 N)) : ∃ l, lp (D_Plan_foreseeTurns_12 Φ) l (nI n - 1, M) := by
  have c7 : ∀ N, ms M 36 N 7 7 = nI a := fun N => by rw [← ea]; exact hR.1.2.2.2.2.2.2.1
  refine lp_ex (fun q (st : Int32 × Mm) => ∃ c N, c = a + q ∧ c ≤ n ∧ st = (nI c - 1, ms M 36 N) ∧ ND v (v 0) n N c) ?_ ?_ (i := n - a) ⟨n, M 36, by omega, by omega, by rw [ms_self], fun p g a1 a2 => absurd a2 (by omega)⟩
  · rintro st ⟨c, N, hc, hcn, rfl, h1⟩ rec
    obtain rfl : c = a := by omega
    rw [D_Plan_foreseeTurns_12, c7]
    exact ht ((lt_m1 (by omega) (by omega)).mpr (by omega)) (k N h1)
  · rintro q st ⟨c, N, hc, hcn, rfl, h1⟩ rec hrec
    obtain rfl : c = (a + q) + 1 := by omega
    rw [D_Plan_foreseeTurns_12, c7]
    refine sk (fun z => absurd ((lt_m1 (by omega) (by omega)).mp z) (by omega)) ?_
    rw [nI_pred]
    exact v_fsRow hR hV e2 hm hC en hn (by omega) h1 (fun N' h' => hrec _ ⟨a + q, N', rfl, by omega, by rw [nI_m1], h'⟩)
theorem v_foresee (hR : RelB (M 7) (M 8) (M 9) (M 10) (M 11) (M 12) v) (hV : VB v) {m n a : Nat} (e2 : v 2 = nI m) (hm : m ≤ 6) (en : v 3 = nI n) (ea : v 6 = nI a) (hn : n ≤ 6) (han : a ≤ n) (Φ : Mm → Prop) (k : ∀ C N, CD v m C 72 → ND v (v 0) n N a → Φ (ms (ms M 35 C) 36 N)) : S_Plan_foreseeTurns M Φ := by
  refine v_learn hR e2 hm _ (fun C hC => ?_)
  have c3 : ms M 35 C 7 3 = nI n := by rw [← en]; exact hR.1.2.2.1
  rw [c3]
  exact v_fsAll (M := ms M 35 C) hR hV e2 hm hC en ea hn han Φ (fun N hN => k C N hC hN)
theorem gear_7 (hR : RelB (M 7) (M 8) (M 9) (M 10) (M 11) (M 12) v) {g : Nat} (eg : 6 * v 4 + v 5 = nI g) : M 7 5 * 6 + M 7 6 = nI g := by
  rw [← eg, hR.1.2.2.2.2.1, hR.1.2.2.2.2.2.1, Int32.mul_comm]
theorem v_fewest (hR : RelB (M 7) (M 8) (M 9) (M 10) (M 11) (M 12) v) (hV : VB v) {m n a g : Nat} (e2 : v 2 = nI m) (hm : m ≤ 6) (hC : CD v m (M 35) 72) (en : v 3 = nI n) (ea : v 6 = nI a) (hn : n ≤ 6) (han : a ≤ n) (hg : g < 18) (eg : 6 * v 4 + v 5 = nI g) (hi : ¬ ig v (nI g) = 0) (hN : ND v (v 0) n (M 36) a) : Val (S_Plan_fewestTurns M) (if ¬ rs v (v 0) n (n - a) g < 1000000000 then -1000000 else rs v (v 0) n (n - a) g) := by
  intro Φ h
  have c7 : M 7 7 = nI a := by rw [← ea]; exact hR.1.2.2.2.2.2.2.1
  unfold S_Plan_fewestTurns S_Bike_gear
  rw [gear_7 hR eg, c7]
  refine v_onward hR hV e2 hm hC en hn han hg hi hN _ ?_
  have hb := rs_br hV (v 0) n (n - a) g (by omega) hg
  by_cases hz : rs v (v 0) n (n - a) g = 1000000000
  · rw [if_pos (by rw [hz]; decide)] at h
    exact ht hz h
  · rw [if_neg (fun z => z (hb.lt (by omega) hz))] at h
    exact sk hz h
theorem v_gearAhead (hR : RelB (M 7) (M 8) (M 9) (M 10) (M 11) (M 12) v) (hV : VB v) {m n a g c : Nat} (e2 : v 2 = nI m) (hm : m ≤ 6) (hC : CD v m (M 35) 72) (en : v 3 = nI n) (ea : v 6 = nI a) (hn : n ≤ 6) (hg : g < 18) (eg : 6 * v 4 + v 5 = nI g) (hi : ¬ ig v (nI g) = 0) (hN : ND v (v 0) n (M 36) a) (hc : a + c < n) : Val (S_Plan_gearAhead M (nI c)) (if ¬ rs v (v 0) n (n - a) g < 1000000000 then -1000000 else nI (pth v (v 0) n a g (c + 1))) := by
  intro Φ h
  have c7 : M 7 7 = nI a := by rw [← ea]; exact hR.1.2.2.2.2.2.2.1
  have c3 : M 7 3 = nI n := by rw [← en]; exact hR.1.2.2.1
  unfold S_Plan_gearAhead S_Bike_gear
  rw [gear_7 hR eg, c7, c3, pk_sub (by omega)]
  refine ht (nI_lt (by omega) (by omega)) ?_
  by_cases hl : rs v (v 0) n (n - a) g < 1000000000
  · rw [if_neg (fun z => z hl)] at h
    refine lp_ex (fun q (st : Int32 × Int32 × Int32) => ∃ j, j + q = c + 1 ∧ st = (nI c, nI (pth v (v 0) n a g j), nI j)) ?_ ?_ (i := c + 1) ⟨0, by omega, rfl⟩
    · rintro st ⟨j, hj, rfl⟩ rec
      obtain rfl : j = c + 1 := by omega
      exact ht (nI_lt (by omega) (by omega)) h
    · rintro q st ⟨j, hj, rfl⟩ rec hrec
      obtain ⟨p1, p2, p3⟩ := pth_ok hV (s := v 0) hn hg hi hl j (by omega)
      rw [rs_at v (v 0) (by omega), if_neg p2] at p3
      rw [D_Plan_gearAhead_24, c7, nI_add]
      refine sk (nI_nlt (by omega) (by omega)) (sk (nI_nn (by omega)) (v_bestGear (v_tbRow hV e2 hm hC hn (by omega) p1 p2 (by omega) hN) _ ?_))
      rw [(bg_an _ 18).1 p3, nI_inc]
      exact hrec _ ⟨j + 1, by omega, rfl⟩
  · rw [if_pos hl] at h
    refine ⟨2, ?_⟩
    show D_Plan_gearAhead_24 M Φ (lp (D_Plan_gearAhead_24 M Φ) 1) (nI c, nI g, nI 0)
    rw [D_Plan_gearAhead_24, c7, nI_add, Nat.add_zero]
    rw [rs_at v (v 0) (by omega), if_neg hi] at hl
    refine sk (nI_nlt (by omega) (by omega)) (sk (nI_nn (by omega)) (v_bestGear (v_tbRow hV e2 hm hC hn (by omega) hg hi (by omega) hN) _ ?_))
    rw [(bg_an _ 18).2 hl]
    exact ⟨fun _ => h, fun _ => ⟨fun _ => h, fun z => absurd rfl z⟩⟩
theorem op_plan (hI : Inv M) : Op_plan Inv M := by
  intro x Φ k
  have hB := hI.bike
  have e0 : M 7 0 = M 39 5 := hB.2.1
  unfold S_plan
  rw [e0]
  refine ⟨fun h0 => k _ M ⟨rfl, rfl⟩ (fun Ψ hΨ => ?_), fun h0 => ⟨fun hx => ?_, fun hx => k _ M ⟨rfl, rfl⟩ (fun Ψ hΨ => ?_)⟩⟩
  · exact ht h0 (hΨ M hI ⟨rfl, rfl⟩)
  · have hV : VB (M 44) := hB.good (Or.inr (Or.inr (Or.inr h0)))
    obtain ⟨⟨b1, b2, b3, b4, b5, b6, b7, b8⟩, -⟩ := hV
    have hV : VB (M 44) := hB.good (Or.inr (Or.inr (Or.inr h0)))
    obtain ⟨m, e2, hm⟩ := ix_nI (b := M 44 2) (by omega)
    obtain ⟨n, en, hn⟩ := ix_nI (b := M 44 3) (by omega)
    obtain ⟨a, ea, ha⟩ := ix_nI (b := M 44 6) (by omega)
    obtain ⟨g, hg, eg, hi⟩ := gear_18 hV
    have hn6 : n ≤ 6 := by omega
    have han : a ≤ n := by omega
    refine v_foresee hB.1 hV e2 (by omega) en ea hn6 han _ (fun C N hC hN => ?_)
    have fin : Φ (pv (M 44) n a g x) (ms (ms M 35 C) 36 N) := k _ _ ⟨rfl, rfl⟩ (fun Ψ hΨ => vr_plan (M := ms (ms M 35 C) 36 N) (v := M 44) h0 rfl hV en ea hn6 han hg eg hi hx Ψ (fun F => hΨ _ hI ⟨rfl, rfl⟩))
    unfold pv at fin
    refine ⟨fun hx1 => v_fewest (M := ms (ms M 35 C) 36 N) hB.1 hV e2 (by omega) hC en ea hn6 han hg eg hi hN _ ?_, fun hx1 => ?_⟩
    · by_cases hl : rs (M 44) (M 44 0) n (n - a) g < 1000000000
      · rw [if_neg (fun z => z hl), if_pos hx1] at fin
        rw [if_neg (fun z => z hl)]; exact fin
      · rw [if_pos hl] at fin
        rw [if_pos hl]; exact fin
    · have em : (-1 : Int32).toInt = -1 := by decide
      have ex0 : 0 ≤ x.toInt := by
        rw [tI_le, em] at hx
        have : ¬ x.toInt = -1 := fun q => hx1 (tI_eq.mpr (by rw [em]; exact q))
        omega
      obtain ⟨c, rfl, hc⟩ := ix_nI ex0
      have hc31 : c < 2 ^ 31 := by have := tI_bnd (nI c); omega
      rw [nI_clamp hc31, if_neg hx1] at fin
      by_cases hlt : a + c < n
      · refine v_gearAhead (M := ms (ms M 35 C) 36 N) hB.1 hV e2 (by omega) hC en ea hn6 hg eg hi hN hlt _ ?_
        by_cases hl : rs (M 44) (M 44 0) n (n - a) g < 1000000000
        · rw [if_neg (fun z => z hl), if_neg (fun z => z (by rw [pk_sub han]; exact nI_lt (by omega) (by omega)))] at fin
          rw [if_neg (fun z => z hl)]; exact fin
        · rw [if_pos hl] at fin
          rw [if_pos hl]; exact fin
      · have nlt : ¬ nI c < nI n - nI a := by rw [pk_sub han]; exact nI_nlt (by omega) hc31
        have fin2 : Φ (-1000000) (ms (ms M 35 C) 36 N) := by
          by_cases hl : rs (M 44) (M 44 0) n (n - a) g < 1000000000
          · rw [if_neg (fun z => z hl), if_pos nlt] at fin; exact fin
          · rw [if_pos hl] at fin; exact fin
        have c7 : ms (ms M 35 C) 36 N 7 7 = nI a := by rw [← ea]; exact hB.1.1.2.2.2.2.2.2.1
        have c3 : ms (ms M 35 C) 36 N 7 3 = nI n := by rw [← en]; exact hB.1.1.2.2.1
        unfold S_Plan_gearAhead
        rw [c7, c3]
        exact sk nlt fin2
  · exact sk h0 (sk hx (hΨ M hI ⟨rfl, rfl⟩))
end Foresee
