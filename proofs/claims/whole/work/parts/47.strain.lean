/-! LEAST: the class -/
def nl (v : Nat → Int32) (p t : Nat) (r : Nat → Int32) : Int32 := if ig v (nI t) = 0 then 1000000000 else mxv (ldv v (t / 6) (t % 6) (v (23 + p))) (r t)
def NL (v : Nat → Int32) (n : Nat) (N : Nat → Int32) (k : Nat) : Prop := ∀ p g, k ≤ p → p < n → g < 18 → N (18 * p + g) = nl v p g (sn v n (n - (p + 1)))
section Strain
variable {M : Mm} {v : Nat → Int32}
theorem v_strainOnward (hR : RelB (M 7) (M 8) (M 9) (M 10) (M 11) (M 12) v) (hV : VB v) {m : Nat} (e2 : v 2 = nI m) (hm : m ≤ 6) (hC : CD v m (M 35) 72) {n p g : Nat} (en : v 3 = nI n) (hn : n ≤ 6) (hp : p ≤ n) (hg : g < 18) (hi : ¬ ig v (nI g) = 0) (hN : NL v n (M 36) p) : Val (S_Plan_strainOnward M (nI p) (nI g)) (sn v n (n - p) g) := by
  intro Φ h
  have c3 : M 7 3 = nI n := by rw [← en]; exact hR.1.2.2.1
  unfold S_Plan_strainOnward
  rw [c3]
  by_cases hpn : p < n
  · rw [sn_at v hpn] at h
    refine ht (nI_lt hpn (by omega)) ?_
    generalize hFF : (fun t => nd v p g t (sn v n (n - (p + 1)))) = F at h
    have hF : ∀ t, F t = nd v p g t (sn v n (n - (p + 1))) := fun t => by rw [← hFF]
    refine lp_ex (fun i (a : Int32 × Int32 × Int32 × Int32) => ∃ j, j + i = 18 ∧ a = (nI p, nI g, mn F j, nI j)) ?_ ?_ (i := 18) ⟨0, rfl, rfl⟩
    · rintro a ⟨j, hj, rfl⟩ rec
      obtain rfl : j = 18 := by omega
      exact ht (by decide) h
    · rintro i a ⟨j, hj, rfl⟩ rec hrec
      have nx : ∀ x, mn F (j + 1) = x → D_Plan_strainOnward_60 M Φ rec (nI p, nI g, x, nI j) := fun x e => hrec _ ⟨j + 1, by omega, by rw [e, nI_inc]⟩
      have mf := mn_far F j
      have far0 : F j = 1000000000 → mn F (j + 1) = mn F j := fun z => mn_s0 (by rw [z, tI_lt, far_i]; omega)
      have hNj := hN p j (Nat.le_refl _) hpn (by omega)
      rw [D_Plan_strainOnward_17]
      refine sk (nle 18 (by omega) (by decide)) (v_costPlace _ (by omega) (by omega) (by omega) _ ?_)
      rw [nI_clamp (by have := cix_lt p g j; omega), ix18r, nI_clamp (by omega), hNj]
      refine ⟨vp_in_nI (cix_lt p g j) (by decide), ?_⟩
      unfold nl
      by_cases hij : ig v (nI j) = 0
      · rw [if_pos hij]
        have z : F j = 1000000000 := by rw [hF]; unfold nd; rw [if_pos (Or.inl hij)]
        exact ⟨fun _ => nx _ (far0 z), fun _ => ⟨vp_in_nI (by omega) (by decide), ⟨fun q => absurd q (by rw [tI_lt, far_i]; omega), fun _ => nx _ (far0 z)⟩⟩⟩
      · rw [if_neg hij, cost_at hV e2 hm hC (by omega) hg (by omega) hi hij]
        by_cases hbl : bl v (nI p) (g % 6) (j % 6) = true
        · rw [if_pos hbl]
          have z : F j = 1000000000 := by rw [hF]; unfold nd; rw [if_pos (Or.inr hbl)]
          exact ht rfl (nx _ (far0 z))
        · rw [if_neg hbl]
          have z : F j = mxv (ldv v (j / 6) (j % 6) (v (23 + p))) (sn v n (n - (p + 1)) j) := by rw [hF]; unfold nd; rw [if_neg (fun q => q.elim hij hbl)]
          rw [← z]
          exact sk (su_ne v (by omega) (by omega)) ⟨vp_in_nI (by omega) (by decide), ⟨fun q => nx _ (mn_s1 q), fun q => nx _ (mn_s0 q)⟩⟩
  · obtain rfl : p = n := by omega
    rw [show p - p = 0 by omega, sn] at h
    exact sk (nI_nlt (Nat.le_refl _) (by omega)) h
theorem v_sfr (hR : RelB (M 7) (M 8) (M 9) (M 10) (M 11) (M 12) v) (hV : VB v) {m : Nat} (e2 : v 2 = nI m) (hm : m ≤ 6) (hC : CD v m (M 35) 72) {n p g : Nat} (en : v 3 = nI n) (hn : n ≤ 6) (hp : p < n) (hg : g < 18) (hN : NL v n (M 36) (p + 1)) : Val (S_Plan_strainFromRide M (nI p) (nI g)) (nl v p g (sn v n (n - (p + 1)))) := by
  intro Φ h
  have t3 : (v 3).toInt = n := by rw [en]; exact nI_toInt (by omega)
  obtain ⟨g1, g2, g3, g4⟩ := gear_nI hg
  unfold S_Plan_strainFromRide
  rw [nI_clamp (by omega), hR.2.2.2 p (by omega), nI_inc]
  refine v_hasGear (k := 7) hV.cb hR.1.1 hR.1.2.1 _ _ ?_
  unfold nl at h
  by_cases hi : ig v (nI g) = 0
  · rw [if_pos hi] at h
    exact ht hi h
  · rw [if_neg hi] at h
    obtain ⟨q1, q2⟩ := ig_nI hg hi
    refine sk hi ⟨vp_in_nI (by omega) (by decide), v_loadOf (k := 7) hR hV hi q1 q2 g3 g4 g1 g2 _ (v_strainOnward hR hV e2 hm hC en hn (by omega) hg hi hN _ ?_)⟩
    unfold mxv at h
    refine ⟨fun q => ?_, fun q => ?_⟩
    · rw [if_pos q] at h; exact h
    · rw [if_neg q] at h; exact h
theorem v_lsRow (hR : RelB (M 7) (M 8) (M 9) (M 10) (M 11) (M 12) v) (hV : VB v) {m : Nat} (e2 : v 2 = nI m) (hm : m ≤ 6) (hC : CD v m (M 35) 72) {n p : Nat} (en : v 3 = nI n) (hn : n ≤ 6) (hp : p < n) {N0 : Nat → Int32} (hN : NL v n N0 (p + 1)) {Φ : Int32 → Mm → Prop} {rec12 : Int32 × Mm → Prop} (k : ∀ N, NL v n N p → rec12 (nI p + (-1), ms M 36 N)) : ∃ l, lp (D_Plan_leastStrain_22 Φ rec12) l (nI p, 0, ms M 36 N0) := by
  refine lp_ex (fun q (a : Int32 × Int32 × Mm) => ∃ j N, j + q = 18 ∧ a = (nI p, nI j, ms M 36 N) ∧ NL v n N (p + 1) ∧ ∀ g, g < j → N (18 * p + g) = nl v p g (sn v n (n - (p + 1)))) ?_ ?_ (i := 18) ⟨0, N0, rfl, rfl, hN, fun g h => absurd h (by omega)⟩
  · rintro a ⟨j, N, hj, rfl, h1, h2⟩ rec
    obtain rfl : j = 18 := by omega
    refine ht (by decide) (k N (fun p' g a1 a2 a3 => ?_))
    by_cases e : p' = p
    · rw [e]; exact h2 g a3
    · exact h1 p' g (by omega) a2 a3
  · rintro q a ⟨j, N, hj, rfl, h1, h2⟩ rec hrec
    rw [D_Plan_leastStrain_22]
    refine sk (nle 18 (by omega) (by decide)) (v_sfr (M := ms M 36 N) hR hV e2 hm hC en hn hp (by omega) h1 _ ?_)
    rw [ix18r, nI_clamp (by omega)]
    refine ⟨vp_in_nI (by omega) (by decide), fun M5 e5 => hrec _ ⟨j + 1, upd N (18 * p + j) (nl v p j (sn v n (n - (p + 1)))), by omega, ?_, ?_, ?_⟩⟩
    · rw [e5, mu_ms, nI_inc]
    · intro p' g a1 a2 a3
      rw [pk_un (by omega)]; exact h1 p' g a1 a2 a3
    · intro g hg
      by_cases e : g = j
      · rw [e, pk_us]
      · rw [pk_un (by omega)]; exact h2 g (by omega)
theorem v_leastStrain (hR : RelB (M 7) (M 8) (M 9) (M 10) (M 11) (M 12) v) (hV : VB v) {m n a g : Nat} (e2 : v 2 = nI m) (hm : m ≤ 6) (en : v 3 = nI n) (ea : v 6 = nI a) (hn : n ≤ 6) (han : a ≤ n) (hg : g < 18) (eg : 6 * v 4 + v 5 = nI g) (hi : ¬ ig v (nI g) = 0) (Φ : Int32 → Mm → Prop) (k : ∀ C N, Φ (sn v n (n - a) g) (ms (ms M 35 C) 36 N)) : S_Plan_leastStrain M Φ := by
  refine v_learn hR e2 hm _ (fun C hC => ?_)
  have c3 : ms M 35 C 7 3 = nI n := by rw [← en]; exact hR.1.2.2.1
  rw [c3]
  have c7 : ∀ N, ms (ms M 35 C) 36 N 7 7 = nI a := fun N => by rw [← ea]; exact hR.1.2.2.2.2.2.2.1
  refine lp_ex (fun q (st : Int32 × Mm) => ∃ c N, c = a + q ∧ c ≤ n ∧ st = (nI c - 1, ms (ms M 35 C) 36 N) ∧ NL v n N c) ?_ ?_ (i := n - a) ⟨n, ms M 35 C 36, by omega, by omega, by rw [ms_self], fun p g a1 a2 => absurd a2 (by omega)⟩
  · rintro st ⟨c, N, hc, hcn, rfl, h1⟩ rec
    obtain rfl : c = a := by omega
    rw [D_Plan_leastStrain_12, c7]
    refine ht ((lt_m1 (by omega) (by omega)).mpr (by omega)) ?_
    unfold S_Bike_gear
    rw [gear_7 (M := ms (ms M 35 C) 36 N) hR eg]
    exact v_strainOnward (M := ms (ms M 35 C) 36 N) hR hV e2 hm hC en hn han hg hi h1 _ (k C N)
  · rintro q st ⟨c, N, hc, hcn, rfl, h1⟩ rec hrec
    obtain rfl : c = (a + q) + 1 := by omega
    rw [D_Plan_leastStrain_12, c7]
    refine sk (fun z => absurd ((lt_m1 (by omega) (by omega)).mp z) (by omega)) ?_
    rw [nI_pred]
    exact v_lsRow (M := ms M 35 C) hR hV e2 hm hC en hn (by omega) h1 (fun N' h' => hrec _ ⟨a + q, N', rfl, by omega, by rw [nI_m1], h'⟩)
theorem op_least (hI : Inv M) : Op_least Inv M := by
  intro Φ k
  have hB := hI.bike
  have e0 : M 7 0 = M 39 5 := hB.2.1
  unfold S_least
  rw [e0]
  refine ⟨fun h0 => k _ M ⟨rfl, rfl⟩ (fun Ψ hΨ => ?_), fun h0 => ?_⟩
  · exact ht h0 (hΨ M hI ⟨rfl, rfl⟩)
  · have hV : VB (M 44) := hB.good (Or.inr (Or.inr (Or.inr h0)))
    obtain ⟨⟨b1, b2, b3, b4, b5, b6, b7, b8⟩, -⟩ := hV
    have hV : VB (M 44) := hB.good (Or.inr (Or.inr (Or.inr h0)))
    obtain ⟨m, e2, hm⟩ := ix_nI (b := M 44 2) (by omega)
    obtain ⟨n, en, hn⟩ := ix_nI (b := M 44 3) (by omega)
    obtain ⟨a, ea, ha⟩ := ix_nI (b := M 44 6) (by omega)
    obtain ⟨g, hg, eg, hi⟩ := gear_18 hV
    have hn6 : n ≤ 6 := by omega
    have han : a ≤ n := by omega
    refine v_leastStrain hB.1 hV e2 (by omega) en ea hn6 han hg eg hi _ (fun C N => ?_)
    have fin : Φ (lsv (sn (M 44) n (n - a) g)) (ms (ms M 35 C) 36 N) := k _ _ ⟨rfl, rfl⟩ (fun Ψ hΨ => sk h0 (vr_least (M := ms (ms M 35 C) 36 N) (v := M 44) rfl hV en ea hn6 han hg eg hi Ψ (fun F => hΨ _ hI ⟨rfl, rfl⟩)))
    unfold lsv at fin
    refine ⟨fun q => ?_, fun q => ?_⟩
    · rw [if_pos q] at fin; exact fin
    · rw [if_neg q] at fin; exact fin
end Strain
