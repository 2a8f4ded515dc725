/-! TEXTS: the reference reads a tape whole -/
/-- what the reference holds behind a good tape; behind a FAULT -/
def RG (M M2 : Mm) (v : Nat → Int32) : Prop := (∀ k, ¬ k = 39 → ¬ k = 44 → ¬ k = 45 → M2 k = M k) ∧ (∀ j, (j < 13 ∨ j = 14 ∨ 19 < j) → ¬ j = 5 → ¬ j = 9 → M2 39 j = M 39 j) ∧ (M2 39 5 = 1 ∧ M2 39 9 = 0 ∧ M2 39 13 = 0) ∧ ∀ j, j < 35 → M2 44 j = v j
def RF (M M2 : Mm) (f : Nat) : Prop := (∀ k, ¬ k = 39 → ¬ k = 45 → M2 k = M k) ∧ (∀ j, j < 13 ∨ 19 < j → M2 39 j = M 39 j) ∧ M2 39 13 = 0 ∧ M2 39 14 = nI f
def zr (g : Nat → Int32) (j : Nat) : Nat → Int32 := fun k => if k < j then 0 else g k
theorem zr_s (g : Nat → Int32) (j : Nat) : upd (zr g j) j 0 = zr g (j + 1) := by
  funext k
  by_cases e : k = j
  · rw [e, pk_us]; unfold zr; rw [if_pos (by omega)]
  · rw [pk_un e]
    unfold zr
    by_cases h : k < j
    · rw [if_pos h, if_pos (by omega)]
    · rw [if_neg h, if_neg (by omega)]
theorem zr_0 (g : Nat → Int32) : zr g 0 = g := by
  funext k
  unfold zr
  rw [if_neg (by omega)]
theorem zr_z (g : Nat → Int32) {j k : Nat} (h : k < j) : zr g j k = 0 := by unfold zr; rw [if_pos h]
theorem ms_o {M : Mm} {k j : Nat} {f : Nat → Int32} (h : ¬ j = k) : ms M k f j = M j := by unfold ms; rw [if_neg h]
section RWhole
variable {M0 M : Mm} {N : Nat} {l : Nat → Int32} {Φ : Int32 → Mm → Prop}
theorem vr_bikeLoop : Run (fun Φ => ∃ n, lp (D_R_bike_109 Φ) n (0, M)) (va_cpy (M 45) (M 44) 0 0 35 2) (ms M 44 (va_cpy (M 45) (M 44) 0 0 35)) := by
  intro Φ h
  refine lp_ex (fun q (a : Int32 × Mm) => ∃ j, j + q = 35 ∧ a = (nI j, ms M 44 (va_cpy (M 45) (M 44) 0 0 j))) ?_ ?_ (i := 35) ⟨0, by omega, ?_⟩
  · rintro a ⟨j, hj, rfl⟩ rec
    obtain rfl : j = 35 := by omega
    exact ⟨fun _ => h, fun z => absurd (by decide) z⟩
  · rintro q a ⟨j, hj, rfl⟩ rec hrec
    rw [D_R_bike_109, nI_clamp (by omega)]
    refine ⟨fun z => absurd z (nle 35 (by omega) (by omega)), fun _ => ?_⟩
    refine ⟨vp_in_nI (by omega) (by decide), vp_in_nI (by omega) (by decide), fun M4 e => hrec _ ⟨j + 1, by omega, ?_⟩⟩
    rw [e, nI_inc, mu_ms, ← cpy_s _ _ _ _ j, Nat.zero_add]
    rfl
  · rw [cpy_0, ms_self]; rfl
theorem RX.f45 {f q : Nat} (h : RX M0 M f q) (g : Nat → Int32) : RX M0 (ms M 45 g) f q := ⟨h.1.f45 g, h.2⟩
/-- the last steps, behind a FAULT -/
theorem xr_end {f q : Nat} (hX : RX M0 M f q) (k : ∀ M2, RF M0 M2 f → Φ ((-1000100) - nI q) M2) : ∀ x, D_R_bike_65 Φ (x, M) := by
  intro x
  obtain ⟨hF, h19, hn, h16⟩ := hX
  rw [D_R_bike_65]
  refine r_dueX hn _ _ _ (fun M3 q3 => ?_)
  rw [q3]
  refine sk hn (fun M7 q7 => ?_)
  have e7 : M7 = ms M 39 (upd (upd (M 39) 13 0) 14 (M 39 19)) := by rw [q7]; exact mu_ms M 39 14 (upd (M 39) 13 0) (M 39 19)
  have a7 : M7 39 16 = nI q := by rw [e7]; exact h16
  rw [a7]
  refine k _ ⟨fun j h1 h2 => ?_, fun j hj => ?_, ?_, ?_⟩
  · rw [e7, ms_o h1]; exact hF.1 j h1 h2
  · rw [e7]
    show upd (upd (M 39) 13 0) 14 (M 39 19) j = M0 39 j
    rw [pk_un (by omega), pk_un (by omega)]; exact hF.2 j (by omega)
  · rw [e7]; rfl
  · rw [e7]; exact h19
theorem xr_fin {f q : Nat} (hX : RX M0 M f q) (k : ∀ M2, RF M0 M2 f → Φ ((-1000100) - nI q) M2) : (((M 39 17) = 3 → D_R_bike_65 Φ (1, M)) ∧ (¬ ((M 39 17) = 3) → D_R_bike_65 Φ (0, M))) := ⟨fun _ => xr_end hX k 1, fun _ => xr_end hX k 0⟩
theorem xr_pieces {Ψ : Mm → Prop} (hn : ¬ M 39 19 = 0) (k : Ψ M) : S_R_readPieces M Ψ := ⟨1, by
  show D_R_readPieces_0 Ψ _ M
  rw [D_R_readPieces_0]; exact sk hn k⟩
theorem xr_cogs {Ψ : Mm → Prop} (hn : ¬ M 39 19 = 0) (k : Ψ M) : S_R_readCogs M Ψ := ⟨1, by
  show D_R_readCogs_0 Ψ _ M
  rw [D_R_readCogs_0]; exact sk hn k⟩
theorem xr_rings {Ψ : Mm → Prop} (hn : ¬ M 39 19 = 0) (k : Ψ M) : S_R_readRings M Ψ := ⟨1, by
  show D_R_readRings_0 Ψ _ M
  rw [D_R_readRings_0]; exact sk hn k⟩
theorem r_fin {i : Nat} {v : Nat → Int32} (hS : RS M0 M N l i v) (k0 : (fin l i v).1 = 0 → ∀ M2, RG M0 M2 (fin l i v).2.2 → Φ ((fin l i v).2.2 2) M2) (k1 : ¬ (fin l i v).1 = 0 → ∀ M2, RF M0 M2 (fin l i v).1 → Φ ((-1000100) - nI (fin l i v).2.1) M2) : (((M 39 17) = 3 → D_R_bike_65 Φ (1, M)) ∧ (¬ ((M 39 17) = 3) → D_R_bike_65 Φ (0, M))) := by
  obtain ⟨hF, hT, hK, e19, e45, hi⟩ := hS
  unfold fin at k0 k1
  by_cases z : l i = -1
  · rw [if_pos z] at k0
    obtain ⟨s17, s15⟩ := hK.atEnd z
    refine ht s17 ?_
    rw [D_R_bike_65]
    refine r_due1 e19 ne1 _ _ (r_stepS hF hT s15 hi e19 e45 _ (fun M2 hS2 M3 q3 => ?_))
    obtain ⟨hF2, hT2, hK2, e192, e452, hi2⟩ := hS2
    rw [q3]
    refine ht e192 (fun M5 q5 M6 q6 => ?_)
    have e6 : M6 = ms M2 39 (upd (upd (upd (M2 39) 13 0) 5 1) 9 0) := by
      rw [q6, q5]
      show mu (mu (ms M2 39 (upd (M2 39) 13 0)) 39 5 1) 39 9 0 = _
      rw [mu_ms, mu_ms]
    rw [e6]
    have hc : ∀ j, j < 35 → va_cpy (M2 45) (M2 44) 0 0 35 j = v j := fun j hj => by rw [cpy00 _ _ j hj, e452]
    refine vr_bikeLoop (M := ms M2 39 (upd (upd (upd (M2 39) 13 0) 5 1) 9 0)) _ ?_
    show Φ (va_cpy (M2 45) (M2 44) 0 0 35 2) (ms (ms M2 39 (upd (upd (upd (M2 39) 13 0) 5 1) 9 0)) 44 (va_cpy (M2 45) (M2 44) 0 0 35))
    rw [hc 2 (by omega)]
    refine k0 rfl _ ⟨fun j h1 h2 h3 => ?_, fun j hj h5 h9 => ?_, ⟨rfl, rfl, rfl⟩, hc⟩
    · rw [ms_o h2, ms_o h1]; exact hF2.1 j h1 h3
    · show upd (upd (upd (M2 39) 13 0) 5 1) 9 0 j = M0 39 j
      rw [pk_un (by omega), pk_un (by omega), pk_un (by omega)]; exact hF2.2 j (by omega)
  · rw [if_neg z] at k1
    refine sk (fun w => absurd (hK.noEnd z w) id) ?_
    rw [D_R_bike_65]
    have n1 : ¬ ((1 : Nat), i, v).1 = 0 := fun w => absurd (show (1 : Nat) = 0 from w) (by decide)
    have hx := xr_end (Φ := Φ) (M := mu M 39 19 1) ⟨hF.bad 1, rfl, ne1, hK.1⟩ (k1 n1) 0
    rw [D_R_bike_65] at hx
    refine r_due0 e19 rfl _ _ (fun M3 q3 => ?_)
    exact (hx.2 ne1) M3 q3
theorem r_prC {i r c : Nat} {v : Nat → Int32} (hS : RS M0 M N l i v) (hP : PV v r c 0) (k0 : (prC l i v).1 = 0 → ∀ M2, RG M0 M2 (prC l i v).2.2 → Φ ((prC l i v).2.2 2) M2) (k1 : ¬ (prC l i v).1 = 0 → ∀ M2, RF M0 M2 (prC l i v).1 → Φ ((-1000100) - nI (prC l i v).2.1) M2) : S_R_readPieces M (fun M9 => (((M9 39 17) = 3 → D_R_bike_65 Φ (1, M9)) ∧ (¬ ((M9 39 17) = 3) → D_R_bike_65 Φ (0, M9)))) := by
  unfold prC at k0 k1
  refine ⟨8, r_pieces 7 0 i v M rfl (by omega) hS hP (fun z M' p hp hS' hP' => ?_) (fun z M' hX => ?_)⟩
  · rw [bnd_0 z] at k0 k1
    exact r_fin hS' k0 k1
  · rw [bnd_1 z] at k1
    exact xr_fin hX (k1 z)
theorem r_prB {i r : Nat} {v : Nat → Int32} (hS : RS M0 M N l i v) (hP : PV v r 0 0) (k0 : (prB l i v).1 = 0 → ∀ M2, RG M0 M2 (prB l i v).2.2 → Φ ((prB l i v).2.2 2) M2) (k1 : ¬ (prB l i v).1 = 0 → ∀ M2, RF M0 M2 (prB l i v).1 → Φ ((-1000100) - nI (prB l i v).2.1) M2) : S_R_readCogs M (fun M8 => S_R_readPieces M8 (fun M9 => (((M9 39 17) = 3 → D_R_bike_65 Φ (1, M9)) ∧ (¬ ((M9 39 17) = 3) → D_R_bike_65 Φ (0, M9))))) := by
  unfold prB at k0 k1
  refine ⟨8, r_cogs 7 0 i v M rfl (by omega) hS hP (fun z M' c hc hS' hP' => ?_) (fun z M' hX => ?_)⟩
  · rw [bnd_0 z] at k0 k1
    exact r_prC hS' hP' k0 k1
  · rw [bnd_1 z] at k1
    exact xr_pieces hX.2.2.1 (xr_fin hX (k1 z))
theorem r_prA {i : Nat} {v : Nat → Int32} (hS : RS M0 M N l i v) (hP : PV v 0 0 0) (k0 : (prA l i v).1 = 0 → ∀ M2, RG M0 M2 (prA l i v).2.2 → Φ ((prA l i v).2.2 2) M2) (k1 : ¬ (prA l i v).1 = 0 → ∀ M2, RF M0 M2 (prA l i v).1 → Φ ((-1000100) - nI (prA l i v).2.1) M2) : S_R_readRings M (fun M7 => S_R_readCogs M7 (fun M8 => S_R_readPieces M8 (fun M9 => (((M9 39 17) = 3 → D_R_bike_65 Φ (1, M9)) ∧ (¬ ((M9 39 17) = 3) → D_R_bike_65 Φ (0, M9)))))) := by
  unfold prA at k0 k1
  refine ⟨5, r_rings 4 0 i v M rfl (by omega) hS hP (fun z M' r hr hS' hP' => ?_) (fun z M' hX => ?_)⟩
  · rw [bnd_0 z] at k0 k1
    exact r_prB hS' hP' k0 k1
  · rw [bnd_1 z] at k1
    exact xr_cogs hX.2.2.1 (xr_pieces hX.2.2.1 (xr_fin hX (k1 z)))
theorem xr_A {f q : Nat} (hX : RX M0 M f q) (k : ∀ M2, RF M0 M2 f → Φ ((-1000100) - nI q) M2) : S_R_readRings M (fun M7 => S_R_readCogs M7 (fun M8 => S_R_readPieces M8 (fun M9 => (((M9 39 17) = 3 → D_R_bike_65 Φ (1, M9)) ∧ (¬ ((M9 39 17) = 3) → D_R_bike_65 Φ (0, M9)))))) :=
  xr_rings hX.2.2.1 (xr_cogs hX.2.2.1 (xr_pieces hX.2.2.1 (xr_fin hX k)))
theorem r_prs {z : Nat → Int32} (hz : ∀ j, j < 35 → z j = 0) (hS : RS M0 M N l 0 z) (k0 : (prs l z).1 = 0 → ∀ M2, RG M0 M2 (prs l z).2.2 → Φ ((prs l z).2.2 2) M2) (k1 : ¬ (prs l z).1 = 0 → ∀ M2, RF M0 M2 (prs l z).1 → Φ ((-1000100) - nI (prs l z).2.1) M2) : S_R_readLaw M (fun M6 => S_R_readRings M6 (fun M7 => S_R_readCogs M7 (fun M8 => S_R_readPieces M8 (fun M9 => (((M9 39 17) = 3 → D_R_bike_65 Φ (1, M9)) ∧ (¬ ((M9 39 17) = 3) → D_R_bike_65 Φ (0, M9))))))) := by
  have hS' := hS
  obtain ⟨hF, hT, hK, e19, e45, hi⟩ := hS'
  have e1 : (1 : Int32).toInt = 1 := by decide
  have e99 : (99 : Int32).toInt = 99 := by decide
  unfold prs at k0 k1
  refine v_isLetter hS (c := 98) (by decide) (by decide) (by decide) _ ?_
  by_cases y : l 0 = 98
  · rw [if_pos y]
    obtain ⟨s17, s18, s15⟩ := hK.letter (c := 98) (by decide) (by decide) (by decide) y
    have hlt : 0 < N := hS.lt (by rw [y]; decide)
    refine r_due1 e19 ne1 _ _ (r_stepS hF hT s15 hlt e19 e45 _ (fun M2 hS2 => ?_))
    refine r_told hS2 1 99 _ (fun w M3 hS3 M4 q4 => ?_) (fun w x M3 hX M4 q4 => ?_)
    · obtain ⟨hF3, hT3, hK3, e193, e453, hi3⟩ := hS3
      have el : lwr l z = (0, (num l 1 99 (0 + 1)).2.2, upd z 0 (num l 1 99 (0 + 1)).1) := by unfold lwr; rw [if_pos y, if_pos w]
      rw [el, bnd_0 rfl] at k0 k1
      obtain ⟨hx, -⟩ := num_ok hT.2.2.2 w
      rw [e1, e99] at hx
      have e4 : M4 = ms M3 45 (upd z 0 (num l 1 99 (0 + 1)).1) := by
        rw [q4]
        show ms M3 45 (upd (M3 45) 0 (num l 1 99 (0 + 1)).1) = _
        rw [e453]
      rw [e4]
      exact r_prA ⟨hF3.f45 _, hT3, hK3, e193, ms_at _ _ _, hi3⟩ (PV.law hz hx) k0 k1
    · have el : lwr l z = ((num l 1 99 (0 + 1)).2.1, (num l 1 99 (0 + 1)).2.2, z) := by unfold lwr; rw [if_pos y, if_neg w]
      rw [el, bnd_1 w] at k1
      rw [q4]
      exact xr_A (hX.f45 _) (k1 w)
  · rw [if_neg y]
    have el : lwr l z = (1, 0, z) := by unfold lwr; rw [if_neg y]
    have n1 : ¬ ((1 : Nat), (0 : Nat), z).1 = 0 := fun w => absurd (show (1 : Nat) = 0 from w) (by decide)
    rw [el, bnd_1 n1] at k1
    refine r_due0 e19 rfl _ _ (r_toldX (M := mu M 39 19 1) ne1 _ _ _ (fun M4 q4 => ?_))
    rw [q4]
    exact xr_A (RX.f45 (M := mu M 39 19 1) ⟨hF.bad 1, rfl, ne1, hK.1⟩ _) (k1 n1)
theorem r_bike (hT : TQ M N l) (k0 : (prs l (zr (M 45) 35)).1 = 0 → ∀ M2, RG M M2 (prs l (zr (M 45) 35)).2.2 → Φ ((prs l (zr (M 45) 35)).2.2 2) M2) (k1 : ¬ (prs l (zr (M 45) 35)).1 = 0 → ∀ M2, RF M M2 (prs l (zr (M 45) 35)).1 → Φ ((-1000100) - nI (prs l (zr (M 45) 35)).2.1) M2) : S_R_bike M Φ := by
  refine lp_ex (fun q (a : Int32 × Mm) => ∃ j, j + q = 35 ∧ a = (nI j, ms M 45 (zr (M 45) j))) ?_ ?_ (i := 35) ⟨0, by omega, ?_⟩
  · rintro a ⟨j, hj, rfl⟩ rec
    obtain rfl : j = 35 := by omega
    rw [D_R_bike_2]
    refine ht (by decide) (fun M3 q3 M4 q4 => ?_)
    have e4 : M4 = ms (ms M 45 (zr (M 45) 35)) 39 (upd (upd (M 39) 15 0) 19 0) := by
      rw [q4, q3]
      exact mu_ms (ms M 45 (zr (M 45) 35)) 39 19 (upd (M 39) 15 0) 0
    rw [e4]
    refine r_stepS (M0 := M) (M := ms (ms M 45 (zr (M 45) 35)) 39 (upd (upd (M 39) 15 0) 19 0)) (N := N) (l := l) (j := 0) (v := zr (M 45) 35) ⟨fun j h1 h2 => ?_, fun j hj => ?_⟩ ⟨hT.1, hT.2⟩ rfl (by omega) rfl rfl _ (fun M5 hS => r_prs (fun j hj => zr_z _ hj) hS k0 k1)
    · rw [ms_o h1, ms_o h2]
    · show upd (upd (M 39) 15 0) 19 0 j = M 39 j
      rw [pk_un (by omega), pk_un (by omega)]
  · rintro q a ⟨j, hj, rfl⟩ rec hrec
    rw [D_R_bike_2, nI_clamp (by omega)]
    refine sk (nle 35 (by omega) (by decide)) ⟨vp_in_nI (by omega) (by decide), fun M4 e => hrec _ ⟨j + 1, by omega, ?_⟩⟩
    rw [e, nI_inc, mu_ms, zr_s]
  · rw [zr_0, ms_self]; rfl
end RWhole
