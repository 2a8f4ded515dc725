/-! PLAN: the reference's GEARS -/
/-- what plan answers -/
def pv (v : Nat → Int32) (n a g : Nat) (x : Int32) : Int32 := if ¬ rs v (v 0) n (n - a) g < 1000000000 then -1000000 else if x = -1 then rs v (v 0) n (n - a) g else if ¬ x < nI n - nI a then -1000000 else nI (pth v (v 0) n a g (x.toNatClampNeg + 1))
section RefPath
variable {M : Mm} {v : Nat → Int32}
theorem vr_pathGear (hv : M 44 = v) (hV : VB v) {n a g j : Nat} (hn : n ≤ 6) (hg : g < 18) (hi : ¬ ig v (nI g) = 0) (hl : rs v (v 0) n (n - a) g < 1000000000) (hj : a + j < n) (hF : RD v (v 0) n (M 50) a) {x : Int32} {Φ : Int32 → Mm → Prop} {rec : Int32 × Int32 × Int32 × Mm → Prop} (k : rec (x, nI (pth v (v 0) n a g (j + 1)), nI (a + j + 1), M)) : ∃ m, lp (D_R_plan_135 Φ rec) m (x, nI (pth v (v 0) n a g j), nI (a + j), 0, 17, M) := by
  obtain ⟨p1, p2, p3⟩ := pth_ok hV (s := v 0) hn hg hi hl j (by omega)
  have vi : ∀ y, Val (S_R_isGear M y) (ig v y) := fun y => by rw [← hv]; exact vr_isGear M y
  have e0 : M 44 (Int32.toNatClampNeg 0) = v 0 := by rw [← hv]; rfl
  have erow := hF (a + j) (pth v (v 0) n a g j) (by omega) (by omega) p1
  rw [rs_at v (v 0) hj, if_neg p2] at p3 erow
  have hf : ∀ t, t < 18 → cb v (v 0) (a + j) (pth v (v 0) n a g j) t (fun g => M 50 (18 * (a + j + 1) + g)) = cb v (v 0) (a + j) (pth v (v 0) n a g j) t (rs v (v 0) n (n - (a + j + 1))) := fun t h18 => cb_congr _ _ _ _ _ (hF (a + j + 1) t (by omega) (by omega) h18)
  have hend := fr_an _ p3
  have epth : an (fun t => cb v (v 0) (a + j) (pth v (v 0) n a g j) t (rs v (v 0) n (n - (a + j + 1)))) 18 = pth v (v 0) n a g (j + 1) := by rw [pth]
  rw [epth] at hend
  generalize hff : (fun t => cb v (v 0) (a + j) (pth v (v 0) n a g j) t (rs v (v 0) n (n - (a + j + 1)))) = f at *
  have hfq : ∀ t, f t = cb v (v 0) (a + j) (pth v (v 0) n a g j) t (rs v (v 0) n (n - (a + j + 1))) := fun t => by rw [← hff]
  generalize hP : pth v (v 0) n a g j = P at *
  refine lp_ex (fun q (st : Int32 × Int32 × Int32 × Int32 × Int32 × Mm) => q ≤ 18 ∧ st = (x, nI P, nI (a + j), fr f (mn f 18) q (18 - q), nI q - 1, M)) ?_ ?_ (i := 18) ⟨by omega, by rw [show 18 - 18 = 0 from rfl, fr]; rfl⟩
  · rintro st ⟨-, rfl⟩ rec'
    rw [D_R_plan_135, show 18 - 0 = 18 from rfl, hend, nI_inc]
    exact ht (by decide) k
  · rintro q st ⟨hq, rfl⟩ rec' hrec
    have eq : 18 - q = 18 - (q + 1) + 1 := by omega
    rw [D_R_plan_135, nI_pred, ix18, nI_clamp (by omega), erow, e0]
    have k1 : ¬ f q = mn f 18 → D_R_plan_184 Φ rec rec' (x, nI P, nI (a + j), fr f (mn f 18) (q + 1) (18 - (q + 1)), nI q, M) := fun z => hrec _ ⟨by omega, by rw [eq, fr, if_neg z, nI_m1]⟩
    have k2 : f q = mn f 18 → D_R_plan_186 Φ rec rec' (x, nI P, nI (a + j), nI q, nI q, M) := fun z => hrec _ ⟨by omega, by rw [eq, fr, if_pos z, nI_m1]⟩
    refine sk (nI_pos (by omega)) (vi _ _ ⟨fun z => k1 (fun y => ?_), fun z => vr_costBy hv hV (v 0) (by omega) p1 (by omega) z _ ⟨vp_in_nI (by omega) (by decide), ?_⟩⟩)
    · rw [← y, hfq] at p3
      unfold cb at p3
      rw [if_pos (Or.inl z), tI_lt] at p3
      omega
    · rw [hf q (by omega), ← hfq]
      exact ⟨k2, k1⟩
theorem vr_path (hv : M 44 = v) (hV : VB v) {n a g c : Nat} (ea : v 6 = nI a) (hn : n ≤ 6) (hg : g < 18) (hi : ¬ ig v (nI g) = 0) (hl : rs v (v 0) n (n - a) g < 1000000000) (hc : a + c < n) (hF : RD v (v 0) n (M 50) a) {Φ : Int32 → Mm → Prop} (k : Φ (nI (pth v (v 0) n a g (c + 1))) M) : ∃ m, lp (D_R_plan_114 Φ) m (nI c, nI g, nI a, M) := by
  have c6 : M 44 (Int32.toNatClampNeg 6) = nI a := by rw [← ea, ← hv]; rfl
  refine lp_ex (fun q (st : Int32 × Int32 × Int32 × Mm) => ∃ j, j + q = c + 1 ∧ st = (nI c, nI (pth v (v 0) n a g j), nI (a + j), M)) ?_ ?_ (i := c + 1) ⟨0, by omega, by rw [pth, Nat.add_zero]⟩
  · rintro st ⟨j, hj, rfl⟩ rec
    obtain rfl : j = c + 1 := by omega
    rw [D_R_plan_114, c6, nI_add]
    exact ht (nI_lt (by omega) (by omega)) k
  · rintro q st ⟨j, hj, rfl⟩ rec hrec
    rw [D_R_plan_114, c6, nI_add]
    exact sk (nI_nlt (by omega) (by omega)) (vr_pathGear hv hV hn hg hi hl (by omega) hF (hrec _ ⟨j + 1, by omega, rfl⟩))
theorem vr_plan (h0 : ¬ M 39 5 = 0) (hv : M 44 = v) (hV : VB v) {n a g : Nat} (en : v 3 = nI n) (ea : v 6 = nI a) (hn : n ≤ 6) (han : a ≤ n) (hg : g < 18) (eg : 6 * v 4 + v 5 = nI g) (hi : ¬ ig v (nI g) = 0) {x : Int32} (hx : -1 ≤ x) (Φ : Int32 → Mm → Prop) (k : ∀ F, Φ (pv v n a g x) (ms M 50 F)) : S_R_plan M x Φ := by
  have e0 : M 44 (Int32.toNatClampNeg 0) = v 0 := by rw [← hv]; rfl
  unfold S_R_plan
  rw [e0]
  refine sk h0 (ht hx (vr_tellRest hv hV en ea hn han _ (fun F hF => ?_)))
  have c6 : ms M 50 F 44 (Int32.toNatClampNeg 6) = nI a := by rw [← ea, ← hv]; rfl
  have c3 : ms M 50 F 44 (Int32.toNatClampNeg 3) = nI n := by rw [← en, ← hv]; rfl
  have cg : 6 * ms M 50 F 44 (Int32.toNatClampNeg 4) + ms M 50 F 44 (Int32.toNatClampNeg 5) = nI g := by rw [← eg, ← hv]; rfl
  unfold S_R_gearOf
  rw [cg, c6, c3]
  dsimp only
  rw [ix18, nI_clamp (by omega), ms_at, hF a g (by omega) han hg]
  refine ⟨vp_in_nI (by omega) (by decide), ?_⟩
  have kk := k F
  unfold pv at kk
  have hb := rs_br hV (v 0) n (n - a) g (by omega) hg
  have lt : (rs v (v 0) n (n - a) g < 1000000000) ↔ ¬ (1000000000 ≤ rs v (v 0) n (n - a) g) := by rw [tI_lt, tI_le]; omega
  by_cases hl : rs v (v 0) n (n - a) g < 1000000000
  · rw [if_neg (fun z => z hl)] at kk
    refine sk (lt.mp hl) ?_
    by_cases z1 : x = -1
    · rw [if_pos z1] at kk
      exact ht z1 (ht hl kk)
    · rw [if_neg z1] at kk
      refine sk z1 ?_
      by_cases z2 : x < nI n - nI a
      · rw [if_neg (fun z => z z2)] at kk
        refine ht z2 ?_
        have em : (-1 : Int32).toInt = -1 := by decide
        have ex0 : 0 ≤ x.toInt := by
          rw [tI_le, em] at hx
          have : ¬ x.toInt = -1 := fun q => z1 (tI_eq.mpr (by rw [em]; exact q))
          omega
        obtain ⟨c, rfl, hc⟩ := ix_nI ex0
        have hlt : a + c < n := by
          rw [pk_sub han, tI_lt, nI_toInt (n := n - a) (by omega)] at z2
          omega
        rw [nI_clamp (by omega)] at kk
        exact vr_path (M := ms M 50 F) hv hV ea hn hg hi hl hlt hF kk
      · rw [if_pos z2] at kk
        exact sk z2 kk
  · rw [if_pos hl] at kk
    have hge : 1000000000 ≤ rs v (v 0) n (n - a) g := Classical.byContradiction fun z => hl (lt.mpr z)
    exact ht hge (sk hl kk)
end RefPath
