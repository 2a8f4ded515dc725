/-! TEXTS: the reference reads rings, cogs, pieces -/
theorem ksr_l {x : Int32} (h : ¬ ksr x = 0) : ¬ wi x 97 122 = 0 ∧ ¬ x = -1 ∧ ¬ fgr x := by
  have key : x = 112 ∨ x = 119 ∨ x = 114 ∨ x = 111 ∨ x = 102 := by
    unfold ksr at h
    by_cases z1 : x = 112
    · exact Or.inl z1
    · by_cases z2 : x = 119
      · exact Or.inr (Or.inl z2)
      · by_cases z3 : x = 114
        · exact Or.inr (Or.inr (Or.inl z3))
        · by_cases z4 : x = 111
          · exact Or.inr (Or.inr (Or.inr (Or.inl z4)))
          · by_cases z5 : x = 102
            · exact Or.inr (Or.inr (Or.inr (Or.inr z5)))
            · rw [if_neg z1, if_neg z2, if_neg z3, if_neg z4, if_neg z5] at h; exact absurd rfl h
  rcases key with z | z | z | z | z <;> rw [z] <;> decide
section RReads
variable {M0 : Mm} {N : Nat} {l : Nat → Int32} {Φ : Mm → Prop}
theorem v_cogSort {M : Mm} {i : Nat} {v : Nat → Int32} (hS : RS M0 M N l i v) : Val (S_R_cogSort M) (ksr (l i)) := by
  intro Φ k
  refine v_isLetter hS (by decide) (by decide) (by decide) _ ?_
  by_cases z1 : l i = 112
  · rw [if_pos z1]; rw [z1] at k; exact sk (by decide) k
  · rw [if_neg z1]
    refine ht rfl (v_isLetter hS (by decide) (by decide) (by decide) _ ?_)
    by_cases z2 : l i = 119
    · rw [if_pos z2]; rw [z2] at k; exact sk (by decide) k
    · rw [if_neg z2]
      refine ht rfl (v_isLetter hS (by decide) (by decide) (by decide) _ ?_)
      by_cases z3 : l i = 114
      · rw [if_pos z3]; rw [z3] at k; exact sk (by decide) k
      · rw [if_neg z3]
        refine ht rfl (v_isLetter hS (by decide) (by decide) (by decide) _ ?_)
        by_cases z4 : l i = 111
        · rw [if_pos z4]; rw [z4] at k; exact sk (by decide) k
        · rw [if_neg z4]
          refine ht rfl (v_isLetter hS (by decide) (by decide) (by decide) _ ?_)
          by_cases z5 : l i = 102
          · rw [if_pos z5]; rw [z5] at k; exact sk (by decide) k
          · rw [if_neg z5]
            have e : ksr (l i) = 0 := by unfold ksr; rw [if_neg z1, if_neg z2, if_neg z3, if_neg z4, if_neg z5]
            rw [e] at k
            exact ht rfl k
theorem ne1 : ¬ (1 : Int32) = 0 := by decide
theorem ne3 : ¬ (3 : Int32) = 0 := by decide
theorem RS.lt {M : Mm} {i : Nat} {v : Nat → Int32} (hS : RS M0 M N l i v) (h : ¬ l i = -1) : i < N := by
  rcases Nat.lt_or_ge i N with w | w
  · exact w
  · exact absurd (hS.2.1.2.2.2 i w) h
theorem r_ringsX {M : Mm} {n : Nat} (hn : ¬ M 39 19 = 0) (k : Φ M) : D_R_readRings_100 Φ (lp (D_R_readRings_0 Φ) (n + 1)) M := by
  show D_R_readRings_0 Φ (lp (D_R_readRings_0 Φ) n) M
  rw [D_R_readRings_0]
  exact sk hn k
theorem r_rings : ∀ (k r i : Nat) (v : Nat → Int32) (M : Mm), r + k = 4 → 0 < k → RS M0 M N l i v → PV v r 0 0 → ((rgs l k r i v).1 = 0 → ∀ (M' : Mm) (r' : Nat), 1 ≤ r' → RS M0 M' N l (rgs l k r i v).2.1 (rgs l k r i v).2.2 → PV (rgs l k r i v).2.2 r' 0 0 → Φ M') → (¬ (rgs l k r i v).1 = 0 → ∀ M' : Mm, RX M0 M' (rgs l k r i v).1 (rgs l k r i v).2.1 → Φ M') → lp (D_R_readRings_0 Φ) (k + 1) M
  | 0, _, _, _, _, _, h, _, _, _, _ => absurd h (by omega)
  | k + 1, r, i, v, M, hk, _, hS, hP, k0, k1 => by
    have hS' := hS
    obtain ⟨hF, hT, hK, e19, e45, hi⟩ := hS'
    have h80 := hT.2.1
    have elo : (20 : Int32).toInt = 20 := by decide
    have ehi : (60 : Int32).toInt = 60 := by decide
    have c1 : M 45 (Int32.toNatClampNeg 1) = nI r := by rw [e45]; exact hP.1.1
    show D_R_readRings_0 Φ (lp (D_R_readRings_0 Φ) (k + 1)) M
    rw [D_R_readRings_0, c1]
    rw [rgs_s] at k0 k1
    refine ht e19 ?_
    have vl := v_isLetter hS (c := 107) (by decide) (by decide) (by decide)
    by_cases hl : l i = 107
    · rw [if_pos hl] at k0 k1 vl
      obtain ⟨s17, s18, s15⟩ := hK.letter (c := 107) (by decide) (by decide) (by decide) hl
      have hlt : i < N := hS.lt (by rw [hl]; decide)
      have body : D_R_readRings_25 Φ (lp (D_R_readRings_0 Φ) (k + 1)) M := by
        rw [D_R_readRings_25]
        refine vl _ (sk (by decide) ?_)
        rw [D_R_readRings_39, c1]
        by_cases h3 : r = 3
        · rw [if_pos h3] at k1
          refine ht (by rw [h3]; decide) ?_
          rw [D_R_readRings_55]
          refine r_due0 e19 rfl _ _ (r_toldX (M := mu M 39 19 3) ne3 _ _ _ (sk ne3 (r_ringsX (M := mu M 39 19 3) ne3 ?_)))
          exact k1 (fun z => absurd (show (3 : Nat) = 0 from z) (by decide)) _ ⟨hF.bad 3, rfl, ne3, hK.1⟩
        · rw [if_neg h3] at k0 k1
          refine sk (nle 3 (by omega) (by decide)) ?_
          rw [D_R_readRings_55]
          refine r_due1 e19 ne1 _ _ (r_stepS hF hT s15 hlt e19 e45 _ (fun M2 hS2 => ?_))
          refine r_told hS2 20 60 _ (fun z M3 hS3 => ?_) (fun z x M3 hX => ?_)
          · have hS4 := hS3
            obtain ⟨hF3, hT3, hK3, e193, e453, hi3⟩ := hS4
            rw [if_pos z] at k0 k1
            obtain ⟨hx, -⟩ := num_ok hT.2.2.2 z
            rw [elo, ehi] at hx
            have c3 : M3 45 (Int32.toNatClampNeg 1) = nI r := by rw [e453]; exact hP.1.1
            have eb : (8 : Int32) + nI r = nI (8 + r) := nI8 8 rfl
            rw [c3, eb, nI_clamp (by omega)]
            refine ht e193 ⟨vp_in_nI (by omega) (by decide), fun M5 q5 M6 q6 => ?_⟩
            have c5 : M5 45 (Int32.toNatClampNeg 1) = nI r := by
              rw [q5]
              show upd (M3 45) (8 + r) (num l 20 60 (i + 1)).1 1 = nI r
              rw [pk_un (by omega)]; exact c3
            have e6 : M6 = ms M3 45 (wR r (num l 20 60 (i + 1)).1 v) := by
              rw [q6, c5, nI_inc, q5]
              show mu (ms M3 45 (upd (M3 45) (8 + r) (num l 20 60 (i + 1)).1)) 45 1 (nI (r + 1)) = _
              rw [mu_ms, e453]; rfl
            rw [e6]
            exact r_rings k (r + 1) _ _ _ (by omega) (by omega) ⟨hF3.f45 _, hT3, hK3, e193, ms_at _ _ _, hi3⟩ (hP.ring (by omega) hx) k0 k1
          · rw [if_neg z] at k1
            exact sk hX.2.2.1 (r_ringsX hX.2.2.1 (k1 z _ hX))
      exact ⟨fun _ => body, fun _ => vl _ (sk (by decide) body)⟩
    · rw [if_neg hl] at k0 k1 vl
      by_cases h0 : r = 0
      · rw [if_pos h0] at k1
        have bad := k1 (fun z => absurd (show (1 : Nat) = 0 from z) (by decide)) (mu M 39 19 1) ⟨hF.bad 1, rfl, ne1, hK.1⟩
        refine ht (by rw [h0]; rfl) ?_
        rw [D_R_readRings_25]
        refine vl _ (ht rfl (fun M3 q3 => ?_))
        rw [q3]
        have go : ∀ b, D_R_readRings_55 Φ (lp (D_R_readRings_0 Φ) (k + 1)) (b, mu M 39 19 1) := fun b => by
          rw [D_R_readRings_55]
          exact r_dueX (M := mu M 39 19 1) ne1 _ _ _ (r_toldX (M := mu M 39 19 1) ne1 _ _ _ (sk ne1 (r_ringsX (M := mu M 39 19 1) ne1 bad)))
        exact ⟨fun _ => go 0, fun _ => go 1⟩
      · rw [if_neg h0] at k0
        exact sk (nI_ne0 (by omega) (by omega)) (vl _ (ht rfl (k0 rfl M r (by omega) hS hP)))
theorem r_cogsX {M : Mm} {n : Nat} (hn : ¬ M 39 19 = 0) (k : Φ M) : D_R_readCogs_114 Φ (lp (D_R_readCogs_0 Φ) (n + 1)) M := by
  show D_R_readCogs_0 Φ (lp (D_R_readCogs_0 Φ) n) M
  rw [D_R_readCogs_0]
  exact sk hn k
theorem r_cogs {r0 : Nat} : ∀ (k r i : Nat) (v : Nat → Int32) (M : Mm), r + k = 7 → 0 < k → RS M0 M N l i v → PV v r0 r 0 → ((cgs l k r i v).1 = 0 → ∀ (M' : Mm) (r' : Nat), 1 ≤ r' → RS M0 M' N l (cgs l k r i v).2.1 (cgs l k r i v).2.2 → PV (cgs l k r i v).2.2 r0 r' 0 → Φ M') → (¬ (cgs l k r i v).1 = 0 → ∀ M' : Mm, RX M0 M' (cgs l k r i v).1 (cgs l k r i v).2.1 → Φ M') → lp (D_R_readCogs_0 Φ) (k + 1) M
  | 0, _, _, _, _, _, h, _, _, _, _ => absurd h (by omega)
  | k + 1, r, i, v, M, hk, _, hS, hP, k0, k1 => by
    have hS' := hS
    obtain ⟨hF, hT, hK, e19, e45, hi⟩ := hS'
    have h80 := hT.2.1
    have elo : (10 : Int32).toInt = 10 := by decide
    have ehi : (40 : Int32).toInt = 40 := by decide
    have c1 : M 45 (Int32.toNatClampNeg 2) = nI r := by rw [e45]; exact hP.1.2.1
    show D_R_readCogs_0 Φ (lp (D_R_readCogs_0 Φ) (k + 1)) M
    rw [D_R_readCogs_0, c1]
    rw [cgs_s] at k0 k1
    refine ht e19 ?_
    have vl := v_cogSort hS
    by_cases hl : ¬ ksr (l i) = 0
    · rw [if_pos hl] at k0 k1
      obtain ⟨w1, w2, w3⟩ := ksr_l hl
      obtain ⟨s17, s18, s15⟩ := hK.letter w1 w2 w3 rfl
      have hlt : i < N := hS.lt w2
      have kb := ksr_b hl
      have body : D_R_readCogs_23 Φ (lp (D_R_readCogs_0 Φ) (k + 1)) M := by
        rw [D_R_readCogs_23]
        refine vl _ (sk hl ?_)
        rw [D_R_readCogs_37, c1]
        by_cases h3 : r = 6
        · rw [if_pos h3] at k1
          refine ht (by rw [h3]; decide) ?_
          rw [D_R_readCogs_54]
          refine r_due0 e19 rfl _ _ (r_toldX (M := mu M 39 19 3) ne3 _ _ _ (sk ne3 (r_cogsX (M := mu M 39 19 3) ne3 ?_)))
          exact k1 (fun z => absurd (show (3 : Nat) = 0 from z) (by decide)) _ ⟨hF.bad 3, rfl, ne3, hK.1⟩
        · rw [if_neg h3] at k0 k1
          refine sk (nle 6 (by omega) (by decide)) ?_
          rw [D_R_readCogs_54]
          refine r_due1 e19 ne1 _ _ (r_stepS hF hT s15 hlt e19 e45 _ (fun M2 hS2 => ?_))
          refine r_told hS2 10 40 _ (fun z M3 hS3 => ?_) (fun z x M3 hX => ?_)
          · have hS4 := hS3
            obtain ⟨hF3, hT3, hK3, e193, e453, hi3⟩ := hS4
            rw [if_pos z] at k0 k1
            obtain ⟨hx, -⟩ := num_ok hT.2.2.2 z
            rw [elo, ehi] at hx
            have c3 : M3 45 (Int32.toNatClampNeg 2) = nI r := by rw [e453]; exact hP.1.2.1
            have eb : (11 : Int32) + nI r = nI (11 + r) := nI8 11 rfl
            have eb7 : (17 : Int32) + nI r = nI (17 + r) := nI8 17 rfl
            rw [c3, eb, nI_clamp (by omega)]
            refine ht e193 ⟨vp_in_nI (by omega) (by decide), fun M6 q6 => ?_⟩
            have c6 : M6 45 (Int32.toNatClampNeg 2) = nI r := by
              rw [q6]
              show upd (M3 45) (11 + r) (ksr (l i)) 2 = nI r
              rw [pk_un (by omega)]; exact c3
            rw [c6, eb7, nI_clamp (by omega)]
            refine ⟨vp_in_nI (by omega) (by decide), fun M7 q7 M8 q8 => ?_⟩
            have c7 : M7 45 (Int32.toNatClampNeg 2) = nI r := by
              rw [q7]
              show upd (M6 45) (17 + r) (num l 10 40 (i + 1)).1 2 = nI r
              rw [pk_un (by omega)]; exact c6
            have e8 : M8 = ms M3 45 (wC r (ksr (l i)) (num l 10 40 (i + 1)).1 v) := by
              rw [q8, c7, nI_inc, q7, q6]
              show mu (mu (ms M3 45 (upd (M3 45) (11 + r) (ksr (l i)))) 45 (17 + r) (num l 10 40 (i + 1)).1) 45 2 (nI (r + 1)) = _
              rw [mu_ms, mu_ms, e453]; rfl
            rw [e8]
            exact r_cogs k (r + 1) _ _ _ (by omega) (by omega) ⟨hF3.f45 _, hT3, hK3, e193, ms_at _ _ _, hi3⟩ (hP.cog (by omega) kb hx) k0 k1
          · rw [if_neg z] at k1
            exact sk hX.2.2.1 (r_cogsX hX.2.2.1 (k1 z _ hX))
      have kpos : ¬ ksr (l i) ≤ 0 := fun w => by
        rw [tI_le, show (0 : Int32).toInt = 0 by decide] at w; omega
      exact ⟨fun _ => body, fun _ => vl _ (sk kpos body)⟩
    · rw [if_neg hl] at k0 k1
      have hl0 : ksr (l i) = 0 := Classical.byContradiction hl
      rw [hl0] at vl
      by_cases h0 : r = 0
      · rw [if_pos h0] at k1
        have bad := k1 (fun z => absurd (show (1 : Nat) = 0 from z) (by decide)) (mu M 39 19 1) ⟨hF.bad 1, rfl, ne1, hK.1⟩
        refine ht (by rw [h0]; rfl) ?_
        rw [D_R_readCogs_23]
        refine vl _ (ht rfl (fun M3 q3 => ?_))
        rw [q3]
        have go : ∀ a b, D_R_readCogs_54 Φ (lp (D_R_readCogs_0 Φ) (k + 1)) (a, b, mu M 39 19 1) := fun a b => by
          rw [D_R_readCogs_54]
          exact r_dueX (M := mu M 39 19 1) ne1 _ _ _ (r_toldX (M := mu M 39 19 1) ne1 _ _ _ (sk ne1 (r_cogsX (M := mu M 39 19 1) ne1 bad)))
        exact ⟨fun _ => go _ 0, fun _ => go _ 1⟩
      · rw [if_neg h0] at k0
        exact sk (nI_ne0 (by omega) (by omega)) (vl _ (ht (by decide) (k0 rfl M r (by omega) hS hP)))
theorem r_piecesX {M : Mm} {n : Nat} (hn : ¬ M 39 19 = 0) (k : Φ M) : D_R_readPieces_100 Φ (lp (D_R_readPieces_0 Φ) (n + 1)) M := by
  show D_R_readPieces_0 Φ (lp (D_R_readPieces_0 Φ) n) M
  rw [D_R_readPieces_0]
  exact sk hn k
theorem r_pieces {r0 c0 : Nat} : ∀ (k r i : Nat) (v : Nat → Int32) (M : Mm), r + k = 7 → 0 < k → RS M0 M N l i v → PV v r0 c0 r → ((psc l k r i v).1 = 0 → ∀ (M' : Mm) (r' : Nat), 1 ≤ r' → RS M0 M' N l (psc l k r i v).2.1 (psc l k r i v).2.2 → PV (psc l k r i v).2.2 r0 c0 r' → Φ M') → (¬ (psc l k r i v).1 = 0 → ∀ M' : Mm, RX M0 M' (psc l k r i v).1 (psc l k r i v).2.1 → Φ M') → lp (D_R_readPieces_0 Φ) (k + 1) M
  | 0, _, _, _, _, _, h, _, _, _, _ => absurd h (by omega)
  | k + 1, r, i, v, M, hk, _, hS, hP, k0, k1 => by
    have hS' := hS
    obtain ⟨hF, hT, hK, e19, e45, hi⟩ := hS'
    have h80 := hT.2.1
    have elo : (0 : Int32).toInt = 0 := by decide
    have ehi : (9 : Int32).toInt = 9 := by decide
    have c1 : M 45 (Int32.toNatClampNeg 3) = nI r := by rw [e45]; exact hP.1.2.2.1
    show D_R_readPieces_0 Φ (lp (D_R_readPieces_0 Φ) (k + 1)) M
    rw [D_R_readPieces_0, c1]
    rw [psc_s] at k0 k1
    refine ht e19 ?_
    have vl := v_isLetter hS (c := 115) (by decide) (by decide) (by decide)
    by_cases hl : l i = 115
    · rw [if_pos hl] at k0 k1 vl
      obtain ⟨s17, s18, s15⟩ := hK.letter (c := 115) (by decide) (by decide) (by decide) hl
      have hlt : i < N := hS.lt (by rw [hl]; decide)
      have body : D_R_readPieces_25 Φ (lp (D_R_readPieces_0 Φ) (k + 1)) M := by
        rw [D_R_readPieces_25]
        refine vl _ (sk (by decide) ?_)
        rw [D_R_readPieces_39, c1]
        by_cases h3 : r = 6
        · rw [if_pos h3] at k1
          refine ht (by rw [h3]; decide) ?_
          rw [D_R_readPieces_56]
          refine r_due0 e19 rfl _ _ (r_toldX (M := mu M 39 19 3) ne3 _ _ _ (sk ne3 (r_piecesX (M := mu M 39 19 3) ne3 ?_)))
          exact k1 (fun z => absurd (show (3 : Nat) = 0 from z) (by decide)) _ ⟨hF.bad 3, rfl, ne3, hK.1⟩
        · rw [if_neg h3] at k0 k1
          refine sk (nle 6 (by omega) (by decide)) ?_
          rw [D_R_readPieces_56]
          refine r_due1 e19 ne1 _ _ (r_stepS hF hT s15 hlt e19 e45 _ (fun M2 hS2 => ?_))
          refine r_told hS2 0 9 _ (fun z M3 hS3 => ?_) (fun z x M3 hX => ?_)
          · have hS4 := hS3
            obtain ⟨hF3, hT3, hK3, e193, e453, hi3⟩ := hS4
            rw [if_pos z] at k0 k1
            obtain ⟨hx, -⟩ := num_ok hT.2.2.2 z
            rw [elo, ehi] at hx
            have c3 : M3 45 (Int32.toNatClampNeg 3) = nI r := by rw [e453]; exact hP.1.2.2.1
            have eb : (23 : Int32) + nI r = nI (23 + r) := nI8 23 rfl
            rw [c3, eb, nI_clamp (by omega)]
            refine ht e193 ⟨vp_in_nI (by omega) (by decide), fun M5 q5 M6 q6 => ?_⟩
            have c5 : M5 45 (Int32.toNatClampNeg 3) = nI r := by
              rw [q5]
              show upd (M3 45) (23 + r) (num l 0 9 (i + 1)).1 3 = nI r
              rw [pk_un (by omega)]; exact c3
            have e6 : M6 = ms M3 45 (wP r (num l 0 9 (i + 1)).1 v) := by
              rw [q6, c5, nI_inc, q5]
              show mu (ms M3 45 (upd (M3 45) (23 + r) (num l 0 9 (i + 1)).1)) 45 3 (nI (r + 1)) = _
              rw [mu_ms, e453]; rfl
            rw [e6]
            exact r_pieces k (r + 1) _ _ _ (by omega) (by omega) ⟨hF3.f45 _, hT3, hK3, e193, ms_at _ _ _, hi3⟩ (hP.piece (by omega) hx) k0 k1
          · rw [if_neg z] at k1
            exact sk hX.2.2.1 (r_piecesX hX.2.2.1 (k1 z _ hX))
      exact ⟨fun _ => body, fun _ => vl _ (sk (by decide) body)⟩
    · rw [if_neg hl] at k0 k1 vl
      by_cases h0 : r = 0
      · rw [if_pos h0] at k1
        have bad := k1 (fun z => absurd (show (1 : Nat) = 0 from z) (by decide)) (mu M 39 19 1) ⟨hF.bad 1, rfl, ne1, hK.1⟩
        refine ht (by rw [h0]; rfl) ?_
        rw [D_R_readPieces_25]
        refine vl _ (ht rfl (fun M3 q3 => ?_))
        rw [q3]
        have go : ∀ b, D_R_readPieces_56 Φ (lp (D_R_readPieces_0 Φ) (k + 1)) (b, mu M 39 19 1) := fun b => by
          rw [D_R_readPieces_56]
          exact r_dueX (M := mu M 39 19 1) ne1 _ _ _ (r_toldX (M := mu M 39 19 1) ne1 _ _ _ (sk ne1 (r_piecesX (M := mu M 39 19 1) ne1 bad)))
        exact ⟨fun _ => go 0, fun _ => go 1⟩
      · rw [if_neg h0] at k0
        exact sk (nI_ne0 (by omega) (by omega)) (vl _ (ht rfl (k0 rfl M r (by omega) hS hP)))
end RReads
