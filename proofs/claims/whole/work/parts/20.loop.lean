/-! printed by wip/whole/gen_loop.py: the law's loop, from what is said of each call: class and reference answer alike, and keep alike -/
/-- the script stays -/
def Keep (M M1 : Mm) : Prop := M1 63 = M 63 ∧ M1 64 = M 64
/-- a call of the class, then the same of the reference: they answer alike, and what was held is held again -/
def Op (I : Mm → Prop) (M : Mm) (S : (Int32 → Mm → Prop) → Prop) (SR : Mm → (Int32 → Mm → Prop) → Prop) : Prop :=
  ∀ Φ : Int32 → Mm → Prop, (∀ (r : Int32) (M1 : Mm), Keep M M1 → (∀ Ψ : Int32 → Mm → Prop, (∀ M2, I M2 → Keep M M2 → Ψ r M2) → SR M1 Ψ) → Φ r M1) → S Φ
def Op_row (I : Mm → Prop) (M : Mm) : Prop := ∀ a1 a2 a3 : Int32, Op I M (fun Φ => S_row M a1 a2 a3 Φ) (fun M1 Ψ => S_R_row M1 a1 a2 a3 Ψ)
def Op_set (I : Mm → Prop) (M : Mm) : Prop := ∀ a1 a2 a3 : Int32, Op I M (fun Φ => S_set M a1 a2 a3 Φ) (fun M1 Ψ => S_R_set M1 a1 a2 a3 Ψ)
def Op_copy (I : Mm → Prop) (M : Mm) : Prop := ∀ a1 a2 a3 a4 a5 : Int32, Op I M (fun Φ => S_copy M a1 a2 a3 a4 a5 Φ) (fun M1 Ψ => S_R_copy M1 a1 a2 a3 a4 a5 Ψ)
def Op_drop (I : Mm → Prop) (M : Mm) : Prop := ∀ a1 : Int32, Op I M (fun Φ => S_drop M a1 Φ) (fun M1 Ψ => S_R_drop M1 a1 Ψ)
def Op_feed (I : Mm → Prop) (M : Mm) : Prop := ∀ a1 : Int32, Op I M (fun Φ => S_feed M a1 Φ) (fun M1 Ψ => S_R_feed M1 a1 Ψ)
def Op_bike (I : Mm → Prop) (M : Mm) : Prop := Op I M (fun Φ => S_bike M Φ) (fun M1 Ψ => S_R_bike M1 Ψ)
def Op_fault (I : Mm → Prop) (M : Mm) : Prop := Op I M (fun Φ => S_fault M (fun r => Φ r M)) (fun M1 Ψ => S_R_fault M1 (fun r => Ψ r M1))
def Op_ride (I : Mm → Prop) (M : Mm) : Prop := Op I M (fun Φ => S_ride M Φ) (fun M1 Ψ => S_R_ride M1 Ψ)
def Op_shift (I : Mm → Prop) (M : Mm) : Prop := ∀ a1 : Int32, Op I M (fun Φ => S_shift M a1 Φ) (fun M1 Ψ => S_R_shift M1 a1 Ψ)
def Op_front (I : Mm → Prop) (M : Mm) : Prop := ∀ a1 : Int32, Op I M (fun Φ => S_front M a1 Φ) (fun M1 Ψ => S_R_front M1 a1 Ψ)
def Op_about (I : Mm → Prop) (M : Mm) : Prop := Op I M (fun Φ => S_about M Φ) (fun M1 Ψ => S_R_about M1 Ψ)
def Op_strength (I : Mm → Prop) (M : Mm) : Prop := ∀ a1 : Int32, Op I M (fun Φ => S_strength M a1 Φ) (fun M1 Ψ => S_R_strength M1 a1 Ψ)
def Op_slope (I : Mm → Prop) (M : Mm) : Prop := ∀ a1 a2 : Int32, Op I M (fun Φ => S_slope M a1 a2 Φ) (fun M1 Ψ => S_R_slope M1 a1 a2 Ψ)
def Op_undo (I : Mm → Prop) (M : Mm) : Prop := Op I M (fun Φ => S_undo M Φ) (fun M1 Ψ => S_R_undo M1 Ψ)
def Op_cog (I : Mm → Prop) (M : Mm) : Prop := ∀ a1 a2 : Int32, Op I M (fun Φ => S_cog M a1 a2 (fun r => Φ r M)) (fun M1 Ψ => S_R_cog M1 a1 a2 (fun r => Ψ r M1))
def Op_ring (I : Mm → Prop) (M : Mm) : Prop := ∀ a1 : Int32, Op I M (fun Φ => S_ring M a1 (fun r => Φ r M)) (fun M1 Ψ => S_R_ring M1 a1 (fun r => Ψ r M1))
def Op_piece (I : Mm → Prop) (M : Mm) : Prop := ∀ a1 a2 : Int32, Op I M (fun Φ => S_piece M a1 a2 (fun r => Φ r M)) (fun M1 Ψ => S_R_piece M1 a1 a2 (fun r => Ψ r M1))
def Op_load (I : Mm → Prop) (M : Mm) : Prop := ∀ a1 a2 : Int32, Op I M (fun Φ => S_load M a1 a2 (fun r => Φ r M)) (fun M1 Ψ => S_R_load M1 a1 a2 (fun r => Ψ r M1))
def Op_rounds (I : Mm → Prop) (M : Mm) : Prop := ∀ a1 : Int32, Op I M (fun Φ => S_rounds M a1 (fun r => Φ r M)) (fun M1 Ψ => S_R_rounds M1 a1 (fun r => Ψ r M1))
def Op_cost (I : Mm → Prop) (M : Mm) : Prop := ∀ a1 a2 : Int32, Op I M (fun Φ => S_cost M a1 a2 (fun r => Φ r M)) (fun M1 Ψ => S_R_cost M1 a1 a2 (fun r => Ψ r M1))
def Op_plan (I : Mm → Prop) (M : Mm) : Prop := ∀ a1 : Int32, Op I M (fun Φ => S_plan M a1 Φ) (fun M1 Ψ => S_R_plan M1 a1 Ψ)
def Op_least (I : Mm → Prop) (M : Mm) : Prop := Op I M (fun Φ => S_least M Φ) (fun M1 Ψ => S_R_least M1 Ψ)
def Op_rank (I : Mm → Prop) (M : Mm) : Prop := ∀ a1 a2 : Int32, Op I M (fun Φ => S_rank M a1 a2 (fun r => Φ r M)) (fun M1 Ψ => S_R_rank M1 a1 a2 (fun r => Ψ r M1))
def Op_share (I : Mm → Prop) (M : Mm) : Prop := ∀ a1 a2 : Int32, Op I M (fun Φ => S_share M a1 a2 (fun r => Φ r M)) (fun M1 Ψ => S_R_share M1 a1 a2 (fun r => Ψ r M1))
def Op_fits (I : Mm → Prop) (M : Mm) : Prop := ∀ a1 a2 a3 a4 : Int32, Op I M (fun Φ => S_fits M a1 a2 a3 a4 Φ) (fun M1 Ψ => S_R_fits M1 a1 a2 a3 a4 Ψ)
def Op_chance (I : Mm → Prop) (M : Mm) : Prop := ∀ a1 a2 : Int32, Op I M (fun Φ => S_chance M a1 a2 (fun r => Φ r M)) (fun M1 Ψ => S_R_chance M1 a1 a2 (fun r => Ψ r M1))
def Op_drawn (I : Mm → Prop) (M : Mm) : Prop := ∀ a1 a2 a3 : Int32, Op I M (fun Φ => S_drawn M a1 a2 a3 Φ) (fun M1 Ψ => S_R_drawn M1 a1 a2 a3 Ψ)
def Op_image (I : Mm → Prop) (M : Mm) : Prop := ∀ a1 : Int32, Op I M (fun Φ => S_image M a1 Φ) (fun M1 Ψ => S_R_image M1 a1 Ψ)
def Op_restore (I : Mm → Prop) (M : Mm) : Prop := ∀ a1 : Int32, Op I M (fun Φ => S_restore M a1 Φ) (fun M1 Ψ => S_R_restore M1 a1 Ψ)
def Op_kind (I : Mm → Prop) (M : Mm) : Prop := ∀ a1 : Int32, Op I M (fun Φ => S_kind M a1 (fun r => Φ r M)) (fun M1 Ψ => S_R_kind M1 a1 (fun r => Ψ r M1))
def Op_as (I : Mm → Prop) (M : Mm) : Prop := ∀ a1 a2 : Int32, Op I M (fun Φ => S_as M a1 a2 Φ) (fun M1 Ψ => S_R_as M1 a1 a2 Ψ)
def Op_ask (I : Mm → Prop) (M : Mm) : Prop := ∀ a1 a2 : Int32, Op I M (fun Φ => S_ask M a1 a2 Φ) (fun M1 Ψ => S_R_ask M1 a1 a2 Ψ)
def Op_trace (I : Mm → Prop) (M : Mm) : Prop := ∀ a1 : Int32, Op I M (fun Φ => S_trace M a1 (fun r => Φ r M)) (fun M1 Ψ => S_R_trace M1 a1 (fun r => Ψ r M1))
def Op_count (I : Mm → Prop) (M : Mm) : Prop := ∀ a1 : Int32, Op I M (fun Φ => S_count M a1 (fun r => Φ r M)) (fun M1 Ψ => S_R_count M1 a1 (fun r => Ψ r M1))
def Op_status (I : Mm → Prop) (M : Mm) : Prop := Op I M (fun Φ => S_status M (fun r => Φ r M)) (fun M1 Ψ => S_R_status M1 (fun r => Ψ r M1))
def Ops (I : Mm → Prop) : Prop := ∀ M, I M → Op_row I M ∧ Op_set I M ∧ Op_copy I M ∧ Op_drop I M ∧ Op_feed I M ∧ Op_bike I M ∧ Op_fault I M ∧ Op_ride I M ∧ Op_shift I M ∧ Op_front I M ∧ Op_about I M ∧ Op_strength I M ∧ Op_slope I M ∧ Op_undo I M ∧ Op_cog I M ∧ Op_ring I M ∧ Op_piece I M ∧ Op_load I M ∧ Op_rounds I M ∧ Op_cost I M ∧ Op_plan I M ∧ Op_least I M ∧ Op_rank I M ∧ Op_share I M ∧ Op_fits I M ∧ Op_chance I M ∧ Op_drawn I M ∧ Op_image I M ∧ Op_restore I M ∧ Op_kind I M ∧ Op_as I M ∧ Op_ask I M ∧ Op_trace I M ∧ Op_count I M ∧ Op_status I M
theorem law_in {L i : Nat} (hL : L ≤ 3072) (hc : ¬ (Int32.ofNat L - 6 < nI i)) (hi : i ≤ L + 6) : i + 6 ≤ L := by
  rw [show (6 : Int32) = nI 6 from rfl, show Int32.ofNat L = nI L from rfl] at hc
  have h1 := pk_sub_toInt (a := L) (b := 6) (by omega) (by omega)
  have h2 := nI_toInt (n := i) (by omega)
  have h3 : ¬ ((nI L - nI 6).toInt < (nI i).toInt) := fun q => hc (Int32.lt_iff_toInt_lt.mpr q)
  rw [h1, h2] at h3
  omega
set_option maxHeartbeats 8000000 in
set_option maxRecDepth 100000 in
theorem law_pure (I : Mm → Prop) (ops : Ops I) {L : Nat} (hL : L ≤ 3072) : ∀ (n i : Nat) (M : Mm), I M → M 64 0 = Int32.ofNat L → i ≤ L + 6 → L + 6 < n + i → lp (D_Law_law_18 (fun r _ => r = 1)) n (nI i, M)
  | 0, i, M, _, _, h1, h2 => absurd h2 (by omega)
  | n + 1, i, M, hI, hM, h1, h2 => by
    have hal : ∀ M1 : Mm, Keep M M1 → alen M1 63 = L := by
      intro M1 hk
      simp only [alen, hk.2, hM]
      exact Int32.toNatClampNeg_ofNat_of_lt (by omega)
    have hal0 := hal M ⟨rfl, rfl⟩
    show D_Law_law_18 (fun r _ => r = 1) (lp (D_Law_law_18 (fun r _ => r = 1)) n) (nI i, M)
    unfold D_Law_law_18
    refine ⟨fun _ => rfl, fun hc => ?_⟩
    rw [hal0] at hc ⊢
    have hin := law_in hL hc h1
    have g0 : vp_in (nI i) L := vp_in_nI (by omega) (by omega)
    have g1 : vp_in (nI i + 1) L := by rw [show (1 : Int32) = nI 1 from rfl, nI_add]; exact vp_in_nI (by omega) (by omega)
    have g2 : vp_in (nI i + 2) L := by rw [show (2 : Int32) = nI 2 from rfl, nI_add]; exact vp_in_nI (by omega) (by omega)
    have g3 : vp_in (nI i + 3) L := by rw [show (3 : Int32) = nI 3 from rfl, nI_add]; exact vp_in_nI (by omega) (by omega)
    have g4 : vp_in (nI i + 4) L := by rw [show (4 : Int32) = nI 4 from rfl, nI_add]; exact vp_in_nI (by omega) (by omega)
    have g5 : vp_in (nI i + 5) L := by rw [show (5 : Int32) = nI 5 from rfl, nI_add]; exact vp_in_nI (by omega) (by omega)
    have hnext : ∀ M2 : Mm, I M2 → Keep M M2 → D_Law_law_1153 (fun r _ => r = 1) (lp (D_Law_law_18 (fun r _ => r = 1)) n) (nI i, M2) := by
      intro M2 hI2 hk2
      show lp (D_Law_law_18 (fun r _ => r = 1)) n (nI i + 6, M2)
      rw [show (6 : Int32) = nI 6 from rfl, nI_add]
      exact law_pure I ops hL n (i + 6) M2 hI2 (by rw [hk2.2, hM]) (by omega) (by omega)
    refine ⟨g0, ?_⟩
    have hops := ops M hI
    refine ⟨fun _ => ?_, fun _ => ?_⟩
    · refine ⟨g1, g2, g3, ?_⟩
      refine hops.1 _ _ _ (fun r M4 => vp_in (nI i + 1) (alen M4 63) ∧ vp_in (nI i + 2) (alen M4 63) ∧ vp_in (nI i + 3) (alen M4 63) ∧ S_R_row M4 (M4 63 (Int32.toNatClampNeg (nI i + 1))) (M4 63 (Int32.toNatClampNeg (nI i + 2))) (M4 63 (Int32.toNatClampNeg (nI i + 3))) (fun r5 M5 => ((r = r5 → D_Law_law_1153 (fun r _ => r = 1) (lp (D_Law_law_18 (fun r _ => r = 1)) n) (nI i, M5)) ∧ (¬ (r = r5) → (0 : Int32) = 1)))) (fun r M4 hk hR => ?_)
      refine ⟨by rw [hal _ hk]; exact g1, by rw [hal _ hk]; exact g2, by rw [hal _ hk]; exact g3, ?_⟩
      rw [hk.1]
      exact hR (fun r5 M5 => ((r = r5 → D_Law_law_1153 (fun r _ => r = 1) (lp (D_Law_law_18 (fun r _ => r = 1)) n) (nI i, M5)) ∧ (¬ (r = r5) → (0 : Int32) = 1))) (fun M2 hI2 hk2 => ⟨fun _ => hnext M2 hI2 hk2, fun h => absurd rfl h⟩)
    refine ⟨fun _ => ?_, fun _ => ?_⟩
    · refine ⟨g1, g2, g3, ?_⟩
      refine hops.2.1 _ _ _ (fun r M4 => vp_in (nI i + 1) (alen M4 63) ∧ vp_in (nI i + 2) (alen M4 63) ∧ vp_in (nI i + 3) (alen M4 63) ∧ S_R_set M4 (M4 63 (Int32.toNatClampNeg (nI i + 1))) (M4 63 (Int32.toNatClampNeg (nI i + 2))) (M4 63 (Int32.toNatClampNeg (nI i + 3))) (fun r5 M5 => ((r = r5 → D_Law_law_1153 (fun r _ => r = 1) (lp (D_Law_law_18 (fun r _ => r = 1)) n) (nI i, M5)) ∧ (¬ (r = r5) → (0 : Int32) = 1)))) (fun r M4 hk hR => ?_)
      refine ⟨by rw [hal _ hk]; exact g1, by rw [hal _ hk]; exact g2, by rw [hal _ hk]; exact g3, ?_⟩
      rw [hk.1]
      exact hR (fun r5 M5 => ((r = r5 → D_Law_law_1153 (fun r _ => r = 1) (lp (D_Law_law_18 (fun r _ => r = 1)) n) (nI i, M5)) ∧ (¬ (r = r5) → (0 : Int32) = 1))) (fun M2 hI2 hk2 => ⟨fun _ => hnext M2 hI2 hk2, fun h => absurd rfl h⟩)
    refine ⟨fun _ => ?_, fun _ => ?_⟩
    · refine ⟨g1, g2, g3, g4, g5, ?_⟩
      refine hops.2.2.1 _ _ _ _ _ (fun r M4 => vp_in (nI i + 1) (alen M4 63) ∧ vp_in (nI i + 2) (alen M4 63) ∧ vp_in (nI i + 3) (alen M4 63) ∧ vp_in (nI i + 4) (alen M4 63) ∧ vp_in (nI i + 5) (alen M4 63) ∧ S_R_copy M4 (M4 63 (Int32.toNatClampNeg (nI i + 1))) (M4 63 (Int32.toNatClampNeg (nI i + 2))) (M4 63 (Int32.toNatClampNeg (nI i + 3))) (M4 63 (Int32.toNatClampNeg (nI i + 4))) (M4 63 (Int32.toNatClampNeg (nI i + 5))) (fun r5 M5 => ((r = r5 → D_Law_law_1153 (fun r _ => r = 1) (lp (D_Law_law_18 (fun r _ => r = 1)) n) (nI i, M5)) ∧ (¬ (r = r5) → (0 : Int32) = 1)))) (fun r M4 hk hR => ?_)
      refine ⟨by rw [hal _ hk]; exact g1, by rw [hal _ hk]; exact g2, by rw [hal _ hk]; exact g3, by rw [hal _ hk]; exact g4, by rw [hal _ hk]; exact g5, ?_⟩
      rw [hk.1]
      exact hR (fun r5 M5 => ((r = r5 → D_Law_law_1153 (fun r _ => r = 1) (lp (D_Law_law_18 (fun r _ => r = 1)) n) (nI i, M5)) ∧ (¬ (r = r5) → (0 : Int32) = 1))) (fun M2 hI2 hk2 => ⟨fun _ => hnext M2 hI2 hk2, fun h => absurd rfl h⟩)
    refine ⟨fun _ => ?_, fun _ => ?_⟩
    · refine ⟨g1, ?_⟩
      refine hops.2.2.2.1 _ (fun r M4 => vp_in (nI i + 1) (alen M4 63) ∧ S_R_drop M4 (M4 63 (Int32.toNatClampNeg (nI i + 1))) (fun r5 M5 => ((r = r5 → D_Law_law_1153 (fun r _ => r = 1) (lp (D_Law_law_18 (fun r _ => r = 1)) n) (nI i, M5)) ∧ (¬ (r = r5) → (0 : Int32) = 1)))) (fun r M4 hk hR => ?_)
      refine ⟨by rw [hal _ hk]; exact g1, ?_⟩
      rw [hk.1]
      exact hR (fun r5 M5 => ((r = r5 → D_Law_law_1153 (fun r _ => r = 1) (lp (D_Law_law_18 (fun r _ => r = 1)) n) (nI i, M5)) ∧ (¬ (r = r5) → (0 : Int32) = 1))) (fun M2 hI2 hk2 => ⟨fun _ => hnext M2 hI2 hk2, fun h => absurd rfl h⟩)
    refine ⟨fun _ => ?_, fun _ => ?_⟩
    · refine ⟨g1, ?_⟩
      refine hops.2.2.2.2.1 _ (fun r M4 => vp_in (nI i + 1) (alen M4 63) ∧ S_R_feed M4 (M4 63 (Int32.toNatClampNeg (nI i + 1))) (fun r5 M5 => ((r = r5 → D_Law_law_1153 (fun r _ => r = 1) (lp (D_Law_law_18 (fun r _ => r = 1)) n) (nI i, M5)) ∧ (¬ (r = r5) → (0 : Int32) = 1)))) (fun r M4 hk hR => ?_)
      refine ⟨by rw [hal _ hk]; exact g1, ?_⟩
      rw [hk.1]
      exact hR (fun r5 M5 => ((r = r5 → D_Law_law_1153 (fun r _ => r = 1) (lp (D_Law_law_18 (fun r _ => r = 1)) n) (nI i, M5)) ∧ (¬ (r = r5) → (0 : Int32) = 1))) (fun M2 hI2 hk2 => ⟨fun _ => hnext M2 hI2 hk2, fun h => absurd rfl h⟩)
    refine ⟨fun _ => ?_, fun _ => ?_⟩
    · skip
      refine hops.2.2.2.2.2.1 (fun r M4 => S_R_bike M4 (fun r5 M5 => ((r = r5 → D_Law_law_1153 (fun r _ => r = 1) (lp (D_Law_law_18 (fun r _ => r = 1)) n) (nI i, M5)) ∧ (¬ (r = r5) → (0 : Int32) = 1)))) (fun r M4 hk hR => ?_)
      exact hR (fun r5 M5 => ((r = r5 → D_Law_law_1153 (fun r _ => r = 1) (lp (D_Law_law_18 (fun r _ => r = 1)) n) (nI i, M5)) ∧ (¬ (r = r5) → (0 : Int32) = 1))) (fun M2 hI2 hk2 => ⟨fun _ => hnext M2 hI2 hk2, fun h => absurd rfl h⟩)
    refine ⟨fun _ => ?_, fun _ => ?_⟩
    · skip
      refine hops.2.2.2.2.2.2.1 (fun r M4 => S_R_fault M4 (fun r5 => ((r = r5 → D_Law_law_1153 (fun r _ => r = 1) (lp (D_Law_law_18 (fun r _ => r = 1)) n) (nI i, M4)) ∧ (¬ (r = r5) → (0 : Int32) = 1)))) (fun r M4 hk hR => ?_)
      exact hR (fun r5 M5 => ((r = r5 → D_Law_law_1153 (fun r _ => r = 1) (lp (D_Law_law_18 (fun r _ => r = 1)) n) (nI i, M5)) ∧ (¬ (r = r5) → (0 : Int32) = 1))) (fun M2 hI2 hk2 => ⟨fun _ => hnext M2 hI2 hk2, fun h => absurd rfl h⟩)
    refine ⟨fun _ => ?_, fun _ => ?_⟩
    · skip
      refine hops.2.2.2.2.2.2.2.1 (fun r M4 => S_R_ride M4 (fun r5 M5 => ((r = r5 → D_Law_law_1153 (fun r _ => r = 1) (lp (D_Law_law_18 (fun r _ => r = 1)) n) (nI i, M5)) ∧ (¬ (r = r5) → (0 : Int32) = 1)))) (fun r M4 hk hR => ?_)
      exact hR (fun r5 M5 => ((r = r5 → D_Law_law_1153 (fun r _ => r = 1) (lp (D_Law_law_18 (fun r _ => r = 1)) n) (nI i, M5)) ∧ (¬ (r = r5) → (0 : Int32) = 1))) (fun M2 hI2 hk2 => ⟨fun _ => hnext M2 hI2 hk2, fun h => absurd rfl h⟩)
    refine ⟨fun _ => ?_, fun _ => ?_⟩
    · refine ⟨g1, ?_⟩
      refine hops.2.2.2.2.2.2.2.2.1 _ (fun r M4 => vp_in (nI i + 1) (alen M4 63) ∧ S_R_shift M4 (M4 63 (Int32.toNatClampNeg (nI i + 1))) (fun r5 M5 => ((r = r5 → D_Law_law_1153 (fun r _ => r = 1) (lp (D_Law_law_18 (fun r _ => r = 1)) n) (nI i, M5)) ∧ (¬ (r = r5) → (0 : Int32) = 1)))) (fun r M4 hk hR => ?_)
      refine ⟨by rw [hal _ hk]; exact g1, ?_⟩
      rw [hk.1]
      exact hR (fun r5 M5 => ((r = r5 → D_Law_law_1153 (fun r _ => r = 1) (lp (D_Law_law_18 (fun r _ => r = 1)) n) (nI i, M5)) ∧ (¬ (r = r5) → (0 : Int32) = 1))) (fun M2 hI2 hk2 => ⟨fun _ => hnext M2 hI2 hk2, fun h => absurd rfl h⟩)
    refine ⟨fun _ => ?_, fun _ => ?_⟩
    · refine ⟨g1, ?_⟩
      refine hops.2.2.2.2.2.2.2.2.2.1 _ (fun r M4 => vp_in (nI i + 1) (alen M4 63) ∧ S_R_front M4 (M4 63 (Int32.toNatClampNeg (nI i + 1))) (fun r5 M5 => ((r = r5 → D_Law_law_1153 (fun r _ => r = 1) (lp (D_Law_law_18 (fun r _ => r = 1)) n) (nI i, M5)) ∧ (¬ (r = r5) → (0 : Int32) = 1)))) (fun r M4 hk hR => ?_)
      refine ⟨by rw [hal _ hk]; exact g1, ?_⟩
      rw [hk.1]
      exact hR (fun r5 M5 => ((r = r5 → D_Law_law_1153 (fun r _ => r = 1) (lp (D_Law_law_18 (fun r _ => r = 1)) n) (nI i, M5)) ∧ (¬ (r = r5) → (0 : Int32) = 1))) (fun M2 hI2 hk2 => ⟨fun _ => hnext M2 hI2 hk2, fun h => absurd rfl h⟩)
    refine ⟨fun _ => ?_, fun _ => ?_⟩
    · skip
      refine hops.2.2.2.2.2.2.2.2.2.2.1 (fun r M4 => S_R_about M4 (fun r5 M5 => ((r = r5 → D_Law_law_1153 (fun r _ => r = 1) (lp (D_Law_law_18 (fun r _ => r = 1)) n) (nI i, M5)) ∧ (¬ (r = r5) → (0 : Int32) = 1)))) (fun r M4 hk hR => ?_)
      exact hR (fun r5 M5 => ((r = r5 → D_Law_law_1153 (fun r _ => r = 1) (lp (D_Law_law_18 (fun r _ => r = 1)) n) (nI i, M5)) ∧ (¬ (r = r5) → (0 : Int32) = 1))) (fun M2 hI2 hk2 => ⟨fun _ => hnext M2 hI2 hk2, fun h => absurd rfl h⟩)
    refine ⟨fun _ => ?_, fun _ => ?_⟩
    · refine ⟨g1, ?_⟩
      refine hops.2.2.2.2.2.2.2.2.2.2.2.1 _ (fun r M4 => vp_in (nI i + 1) (alen M4 63) ∧ S_R_strength M4 (M4 63 (Int32.toNatClampNeg (nI i + 1))) (fun r5 M5 => ((r = r5 → D_Law_law_1153 (fun r _ => r = 1) (lp (D_Law_law_18 (fun r _ => r = 1)) n) (nI i, M5)) ∧ (¬ (r = r5) → (0 : Int32) = 1)))) (fun r M4 hk hR => ?_)
      refine ⟨by rw [hal _ hk]; exact g1, ?_⟩
      rw [hk.1]
      exact hR (fun r5 M5 => ((r = r5 → D_Law_law_1153 (fun r _ => r = 1) (lp (D_Law_law_18 (fun r _ => r = 1)) n) (nI i, M5)) ∧ (¬ (r = r5) → (0 : Int32) = 1))) (fun M2 hI2 hk2 => ⟨fun _ => hnext M2 hI2 hk2, fun h => absurd rfl h⟩)
    refine ⟨fun _ => ?_, fun _ => ?_⟩
    · refine ⟨g1, g2, ?_⟩
      refine hops.2.2.2.2.2.2.2.2.2.2.2.2.1 _ _ (fun r M4 => vp_in (nI i + 1) (alen M4 63) ∧ vp_in (nI i + 2) (alen M4 63) ∧ S_R_slope M4 (M4 63 (Int32.toNatClampNeg (nI i + 1))) (M4 63 (Int32.toNatClampNeg (nI i + 2))) (fun r5 M5 => ((r = r5 → D_Law_law_1153 (fun r _ => r = 1) (lp (D_Law_law_18 (fun r _ => r = 1)) n) (nI i, M5)) ∧ (¬ (r = r5) → (0 : Int32) = 1)))) (fun r M4 hk hR => ?_)
      refine ⟨by rw [hal _ hk]; exact g1, by rw [hal _ hk]; exact g2, ?_⟩
      rw [hk.1]
      exact hR (fun r5 M5 => ((r = r5 → D_Law_law_1153 (fun r _ => r = 1) (lp (D_Law_law_18 (fun r _ => r = 1)) n) (nI i, M5)) ∧ (¬ (r = r5) → (0 : Int32) = 1))) (fun M2 hI2 hk2 => ⟨fun _ => hnext M2 hI2 hk2, fun h => absurd rfl h⟩)
    refine ⟨fun _ => ?_, fun _ => ?_⟩
    · skip
      refine hops.2.2.2.2.2.2.2.2.2.2.2.2.2.1 (fun r M4 => S_R_undo M4 (fun r5 M5 => ((r = r5 → D_Law_law_1153 (fun r _ => r = 1) (lp (D_Law_law_18 (fun r _ => r = 1)) n) (nI i, M5)) ∧ (¬ (r = r5) → (0 : Int32) = 1)))) (fun r M4 hk hR => ?_)
      exact hR (fun r5 M5 => ((r = r5 → D_Law_law_1153 (fun r _ => r = 1) (lp (D_Law_law_18 (fun r _ => r = 1)) n) (nI i, M5)) ∧ (¬ (r = r5) → (0 : Int32) = 1))) (fun M2 hI2 hk2 => ⟨fun _ => hnext M2 hI2 hk2, fun h => absurd rfl h⟩)
    refine ⟨fun _ => ?_, fun _ => ?_⟩
    · refine ⟨g1, g2, ?_⟩
      refine hops.2.2.2.2.2.2.2.2.2.2.2.2.2.2.1 _ _ (fun r M4 => vp_in (nI i + 1) L ∧ vp_in (nI i + 2) L ∧ S_R_cog M4 (M4 63 (Int32.toNatClampNeg (nI i + 1))) (M4 63 (Int32.toNatClampNeg (nI i + 2))) (fun r5 => ((r = r5 → D_Law_law_1153 (fun r _ => r = 1) (lp (D_Law_law_18 (fun r _ => r = 1)) n) (nI i, M4)) ∧ (¬ (r = r5) → (0 : Int32) = 1)))) (fun r M4 hk hR => ?_)
      refine ⟨g1, g2, ?_⟩
      rw [hk.1]
      exact hR (fun r5 M5 => ((r = r5 → D_Law_law_1153 (fun r _ => r = 1) (lp (D_Law_law_18 (fun r _ => r = 1)) n) (nI i, M5)) ∧ (¬ (r = r5) → (0 : Int32) = 1))) (fun M2 hI2 hk2 => ⟨fun _ => hnext M2 hI2 hk2, fun h => absurd rfl h⟩)
    refine ⟨fun _ => ?_, fun _ => ?_⟩
    · refine ⟨g1, ?_⟩
      refine hops.2.2.2.2.2.2.2.2.2.2.2.2.2.2.2.1 _ (fun r M4 => vp_in (nI i + 1) L ∧ S_R_ring M4 (M4 63 (Int32.toNatClampNeg (nI i + 1))) (fun r5 => ((r = r5 → D_Law_law_1153 (fun r _ => r = 1) (lp (D_Law_law_18 (fun r _ => r = 1)) n) (nI i, M4)) ∧ (¬ (r = r5) → (0 : Int32) = 1)))) (fun r M4 hk hR => ?_)
      refine ⟨g1, ?_⟩
      rw [hk.1]
      exact hR (fun r5 M5 => ((r = r5 → D_Law_law_1153 (fun r _ => r = 1) (lp (D_Law_law_18 (fun r _ => r = 1)) n) (nI i, M5)) ∧ (¬ (r = r5) → (0 : Int32) = 1))) (fun M2 hI2 hk2 => ⟨fun _ => hnext M2 hI2 hk2, fun h => absurd rfl h⟩)
    refine ⟨fun _ => ?_, fun _ => ?_⟩
    · refine ⟨g1, g2, ?_⟩
      refine hops.2.2.2.2.2.2.2.2.2.2.2.2.2.2.2.2.1 _ _ (fun r M4 => vp_in (nI i + 1) L ∧ vp_in (nI i + 2) L ∧ S_R_piece M4 (M4 63 (Int32.toNatClampNeg (nI i + 1))) (M4 63 (Int32.toNatClampNeg (nI i + 2))) (fun r5 => ((r = r5 → D_Law_law_1153 (fun r _ => r = 1) (lp (D_Law_law_18 (fun r _ => r = 1)) n) (nI i, M4)) ∧ (¬ (r = r5) → (0 : Int32) = 1)))) (fun r M4 hk hR => ?_)
      refine ⟨g1, g2, ?_⟩
      rw [hk.1]
      exact hR (fun r5 M5 => ((r = r5 → D_Law_law_1153 (fun r _ => r = 1) (lp (D_Law_law_18 (fun r _ => r = 1)) n) (nI i, M5)) ∧ (¬ (r = r5) → (0 : Int32) = 1))) (fun M2 hI2 hk2 => ⟨fun _ => hnext M2 hI2 hk2, fun h => absurd rfl h⟩)
    refine ⟨fun _ => ?_, fun _ => ?_⟩
    · refine ⟨g1, g2, ?_⟩
      refine hops.2.2.2.2.2.2.2.2.2.2.2.2.2.2.2.2.2.1 _ _ (fun r M4 => vp_in (nI i + 1) L ∧ vp_in (nI i + 2) L ∧ S_R_load M4 (M4 63 (Int32.toNatClampNeg (nI i + 1))) (M4 63 (Int32.toNatClampNeg (nI i + 2))) (fun r5 => ((r = r5 → D_Law_law_1153 (fun r _ => r = 1) (lp (D_Law_law_18 (fun r _ => r = 1)) n) (nI i, M4)) ∧ (¬ (r = r5) → (0 : Int32) = 1)))) (fun r M4 hk hR => ?_)
      refine ⟨g1, g2, ?_⟩
      rw [hk.1]
      exact hR (fun r5 M5 => ((r = r5 → D_Law_law_1153 (fun r _ => r = 1) (lp (D_Law_law_18 (fun r _ => r = 1)) n) (nI i, M5)) ∧ (¬ (r = r5) → (0 : Int32) = 1))) (fun M2 hI2 hk2 => ⟨fun _ => hnext M2 hI2 hk2, fun h => absurd rfl h⟩)
    refine ⟨fun _ => ?_, fun _ => ?_⟩
    · refine ⟨g1, ?_⟩
      refine hops.2.2.2.2.2.2.2.2.2.2.2.2.2.2.2.2.2.2.1 _ (fun r M4 => vp_in (nI i + 1) L ∧ S_R_rounds M4 (M4 63 (Int32.toNatClampNeg (nI i + 1))) (fun r5 => ((r = r5 → D_Law_law_1153 (fun r _ => r = 1) (lp (D_Law_law_18 (fun r _ => r = 1)) n) (nI i, M4)) ∧ (¬ (r = r5) → (0 : Int32) = 1)))) (fun r M4 hk hR => ?_)
      refine ⟨g1, ?_⟩
      rw [hk.1]
      exact hR (fun r5 M5 => ((r = r5 → D_Law_law_1153 (fun r _ => r = 1) (lp (D_Law_law_18 (fun r _ => r = 1)) n) (nI i, M5)) ∧ (¬ (r = r5) → (0 : Int32) = 1))) (fun M2 hI2 hk2 => ⟨fun _ => hnext M2 hI2 hk2, fun h => absurd rfl h⟩)
    refine ⟨fun _ => ?_, fun _ => ?_⟩
    · refine ⟨g1, g2, ?_⟩
      refine hops.2.2.2.2.2.2.2.2.2.2.2.2.2.2.2.2.2.2.2.1 _ _ (fun r M4 => vp_in (nI i + 1) L ∧ vp_in (nI i + 2) L ∧ S_R_cost M4 (M4 63 (Int32.toNatClampNeg (nI i + 1))) (M4 63 (Int32.toNatClampNeg (nI i + 2))) (fun r5 => ((r = r5 → D_Law_law_1153 (fun r _ => r = 1) (lp (D_Law_law_18 (fun r _ => r = 1)) n) (nI i, M4)) ∧ (¬ (r = r5) → (0 : Int32) = 1)))) (fun r M4 hk hR => ?_)
      refine ⟨g1, g2, ?_⟩
      rw [hk.1]
      exact hR (fun r5 M5 => ((r = r5 → D_Law_law_1153 (fun r _ => r = 1) (lp (D_Law_law_18 (fun r _ => r = 1)) n) (nI i, M5)) ∧ (¬ (r = r5) → (0 : Int32) = 1))) (fun M2 hI2 hk2 => ⟨fun _ => hnext M2 hI2 hk2, fun h => absurd rfl h⟩)
    refine ⟨fun _ => ?_, fun _ => ?_⟩
    · refine ⟨g1, ?_⟩
      refine hops.2.2.2.2.2.2.2.2.2.2.2.2.2.2.2.2.2.2.2.2.1 _ (fun r M4 => vp_in (nI i + 1) (alen M4 63) ∧ S_R_plan M4 (M4 63 (Int32.toNatClampNeg (nI i + 1))) (fun r5 M5 => ((r = r5 → D_Law_law_1153 (fun r _ => r = 1) (lp (D_Law_law_18 (fun r _ => r = 1)) n) (nI i, M5)) ∧ (¬ (r = r5) → (0 : Int32) = 1)))) (fun r M4 hk hR => ?_)
      refine ⟨by rw [hal _ hk]; exact g1, ?_⟩
      rw [hk.1]
      exact hR (fun r5 M5 => ((r = r5 → D_Law_law_1153 (fun r _ => r = 1) (lp (D_Law_law_18 (fun r _ => r = 1)) n) (nI i, M5)) ∧ (¬ (r = r5) → (0 : Int32) = 1))) (fun M2 hI2 hk2 => ⟨fun _ => hnext M2 hI2 hk2, fun h => absurd rfl h⟩)
    refine ⟨fun _ => ?_, fun _ => ?_⟩
    · skip
      refine hops.2.2.2.2.2.2.2.2.2.2.2.2.2.2.2.2.2.2.2.2.2.1 (fun r M4 => S_R_least M4 (fun r5 M5 => ((r = r5 → D_Law_law_1153 (fun r _ => r = 1) (lp (D_Law_law_18 (fun r _ => r = 1)) n) (nI i, M5)) ∧ (¬ (r = r5) → (0 : Int32) = 1)))) (fun r M4 hk hR => ?_)
      exact hR (fun r5 M5 => ((r = r5 → D_Law_law_1153 (fun r _ => r = 1) (lp (D_Law_law_18 (fun r _ => r = 1)) n) (nI i, M5)) ∧ (¬ (r = r5) → (0 : Int32) = 1))) (fun M2 hI2 hk2 => ⟨fun _ => hnext M2 hI2 hk2, fun h => absurd rfl h⟩)
    refine ⟨fun _ => ?_, fun _ => ?_⟩
    · refine ⟨g1, g2, ?_⟩
      refine hops.2.2.2.2.2.2.2.2.2.2.2.2.2.2.2.2.2.2.2.2.2.2.1 _ _ (fun r M4 => vp_in (nI i + 1) L ∧ vp_in (nI i + 2) L ∧ S_R_rank M4 (M4 63 (Int32.toNatClampNeg (nI i + 1))) (M4 63 (Int32.toNatClampNeg (nI i + 2))) (fun r5 => ((r = r5 → D_Law_law_1153 (fun r _ => r = 1) (lp (D_Law_law_18 (fun r _ => r = 1)) n) (nI i, M4)) ∧ (¬ (r = r5) → (0 : Int32) = 1)))) (fun r M4 hk hR => ?_)
      refine ⟨g1, g2, ?_⟩
      rw [hk.1]
      exact hR (fun r5 M5 => ((r = r5 → D_Law_law_1153 (fun r _ => r = 1) (lp (D_Law_law_18 (fun r _ => r = 1)) n) (nI i, M5)) ∧ (¬ (r = r5) → (0 : Int32) = 1))) (fun M2 hI2 hk2 => ⟨fun _ => hnext M2 hI2 hk2, fun h => absurd rfl h⟩)
    refine ⟨fun _ => ?_, fun _ => ?_⟩
    · refine ⟨g1, g2, ?_⟩
      refine hops.2.2.2.2.2.2.2.2.2.2.2.2.2.2.2.2.2.2.2.2.2.2.2.1 _ _ (fun r M4 => vp_in (nI i + 1) L ∧ vp_in (nI i + 2) L ∧ S_R_share M4 (M4 63 (Int32.toNatClampNeg (nI i + 1))) (M4 63 (Int32.toNatClampNeg (nI i + 2))) (fun r5 => ((r = r5 → D_Law_law_1153 (fun r _ => r = 1) (lp (D_Law_law_18 (fun r _ => r = 1)) n) (nI i, M4)) ∧ (¬ (r = r5) → (0 : Int32) = 1)))) (fun r M4 hk hR => ?_)
      refine ⟨g1, g2, ?_⟩
      rw [hk.1]
      exact hR (fun r5 M5 => ((r = r5 → D_Law_law_1153 (fun r _ => r = 1) (lp (D_Law_law_18 (fun r _ => r = 1)) n) (nI i, M5)) ∧ (¬ (r = r5) → (0 : Int32) = 1))) (fun M2 hI2 hk2 => ⟨fun _ => hnext M2 hI2 hk2, fun h => absurd rfl h⟩)
    refine ⟨fun _ => ?_, fun _ => ?_⟩
    · refine ⟨g1, g2, g3, g4, ?_⟩
      refine hops.2.2.2.2.2.2.2.2.2.2.2.2.2.2.2.2.2.2.2.2.2.2.2.2.1 _ _ _ _ (fun r M4 => vp_in (nI i + 1) (alen M4 63) ∧ vp_in (nI i + 2) (alen M4 63) ∧ vp_in (nI i + 3) (alen M4 63) ∧ vp_in (nI i + 4) (alen M4 63) ∧ S_R_fits M4 (M4 63 (Int32.toNatClampNeg (nI i + 1))) (M4 63 (Int32.toNatClampNeg (nI i + 2))) (M4 63 (Int32.toNatClampNeg (nI i + 3))) (M4 63 (Int32.toNatClampNeg (nI i + 4))) (fun r5 M5 => ((r = r5 → D_Law_law_1153 (fun r _ => r = 1) (lp (D_Law_law_18 (fun r _ => r = 1)) n) (nI i, M5)) ∧ (¬ (r = r5) → (0 : Int32) = 1)))) (fun r M4 hk hR => ?_)
      refine ⟨by rw [hal _ hk]; exact g1, by rw [hal _ hk]; exact g2, by rw [hal _ hk]; exact g3, by rw [hal _ hk]; exact g4, ?_⟩
      rw [hk.1]
      exact hR (fun r5 M5 => ((r = r5 → D_Law_law_1153 (fun r _ => r = 1) (lp (D_Law_law_18 (fun r _ => r = 1)) n) (nI i, M5)) ∧ (¬ (r = r5) → (0 : Int32) = 1))) (fun M2 hI2 hk2 => ⟨fun _ => hnext M2 hI2 hk2, fun h => absurd rfl h⟩)
    refine ⟨fun _ => ?_, fun _ => ?_⟩
    · refine ⟨g1, g2, ?_⟩
      refine hops.2.2.2.2.2.2.2.2.2.2.2.2.2.2.2.2.2.2.2.2.2.2.2.2.2.1 _ _ (fun r M4 => vp_in (nI i + 1) L ∧ vp_in (nI i + 2) L ∧ S_R_chance M4 (M4 63 (Int32.toNatClampNeg (nI i + 1))) (M4 63 (Int32.toNatClampNeg (nI i + 2))) (fun r5 => ((r = r5 → D_Law_law_1153 (fun r _ => r = 1) (lp (D_Law_law_18 (fun r _ => r = 1)) n) (nI i, M4)) ∧ (¬ (r = r5) → (0 : Int32) = 1)))) (fun r M4 hk hR => ?_)
      refine ⟨g1, g2, ?_⟩
      rw [hk.1]
      exact hR (fun r5 M5 => ((r = r5 → D_Law_law_1153 (fun r _ => r = 1) (lp (D_Law_law_18 (fun r _ => r = 1)) n) (nI i, M5)) ∧ (¬ (r = r5) → (0 : Int32) = 1))) (fun M2 hI2 hk2 => ⟨fun _ => hnext M2 hI2 hk2, fun h => absurd rfl h⟩)
    refine ⟨fun _ => ?_, fun _ => ?_⟩
    · refine ⟨g1, g2, g3, ?_⟩
      refine hops.2.2.2.2.2.2.2.2.2.2.2.2.2.2.2.2.2.2.2.2.2.2.2.2.2.2.1 _ _ _ (fun r M4 => vp_in (nI i + 1) (alen M4 63) ∧ vp_in (nI i + 2) (alen M4 63) ∧ vp_in (nI i + 3) (alen M4 63) ∧ S_R_drawn M4 (M4 63 (Int32.toNatClampNeg (nI i + 1))) (M4 63 (Int32.toNatClampNeg (nI i + 2))) (M4 63 (Int32.toNatClampNeg (nI i + 3))) (fun r5 M5 => ((r = r5 → D_Law_law_1153 (fun r _ => r = 1) (lp (D_Law_law_18 (fun r _ => r = 1)) n) (nI i, M5)) ∧ (¬ (r = r5) → (0 : Int32) = 1)))) (fun r M4 hk hR => ?_)
      refine ⟨by rw [hal _ hk]; exact g1, by rw [hal _ hk]; exact g2, by rw [hal _ hk]; exact g3, ?_⟩
      rw [hk.1]
      exact hR (fun r5 M5 => ((r = r5 → D_Law_law_1153 (fun r _ => r = 1) (lp (D_Law_law_18 (fun r _ => r = 1)) n) (nI i, M5)) ∧ (¬ (r = r5) → (0 : Int32) = 1))) (fun M2 hI2 hk2 => ⟨fun _ => hnext M2 hI2 hk2, fun h => absurd rfl h⟩)
    refine ⟨fun _ => ?_, fun _ => ?_⟩
    · refine ⟨g1, ?_⟩
      refine hops.2.2.2.2.2.2.2.2.2.2.2.2.2.2.2.2.2.2.2.2.2.2.2.2.2.2.2.1 _ (fun r M4 => vp_in (nI i + 1) (alen M4 63) ∧ S_R_image M4 (M4 63 (Int32.toNatClampNeg (nI i + 1))) (fun r5 M5 => ((r = r5 → D_Law_law_1153 (fun r _ => r = 1) (lp (D_Law_law_18 (fun r _ => r = 1)) n) (nI i, M5)) ∧ (¬ (r = r5) → (0 : Int32) = 1)))) (fun r M4 hk hR => ?_)
      refine ⟨by rw [hal _ hk]; exact g1, ?_⟩
      rw [hk.1]
      exact hR (fun r5 M5 => ((r = r5 → D_Law_law_1153 (fun r _ => r = 1) (lp (D_Law_law_18 (fun r _ => r = 1)) n) (nI i, M5)) ∧ (¬ (r = r5) → (0 : Int32) = 1))) (fun M2 hI2 hk2 => ⟨fun _ => hnext M2 hI2 hk2, fun h => absurd rfl h⟩)
    refine ⟨fun _ => ?_, fun _ => ?_⟩
    · refine ⟨g1, ?_⟩
      refine hops.2.2.2.2.2.2.2.2.2.2.2.2.2.2.2.2.2.2.2.2.2.2.2.2.2.2.2.2.1 _ (fun r M4 => vp_in (nI i + 1) (alen M4 63) ∧ S_R_restore M4 (M4 63 (Int32.toNatClampNeg (nI i + 1))) (fun r5 M5 => ((r = r5 → D_Law_law_1153 (fun r _ => r = 1) (lp (D_Law_law_18 (fun r _ => r = 1)) n) (nI i, M5)) ∧ (¬ (r = r5) → (0 : Int32) = 1)))) (fun r M4 hk hR => ?_)
      refine ⟨by rw [hal _ hk]; exact g1, ?_⟩
      rw [hk.1]
      exact hR (fun r5 M5 => ((r = r5 → D_Law_law_1153 (fun r _ => r = 1) (lp (D_Law_law_18 (fun r _ => r = 1)) n) (nI i, M5)) ∧ (¬ (r = r5) → (0 : Int32) = 1))) (fun M2 hI2 hk2 => ⟨fun _ => hnext M2 hI2 hk2, fun h => absurd rfl h⟩)
    refine ⟨fun _ => ?_, fun _ => ?_⟩
    · refine ⟨g1, ?_⟩
      refine hops.2.2.2.2.2.2.2.2.2.2.2.2.2.2.2.2.2.2.2.2.2.2.2.2.2.2.2.2.2.1 _ (fun r M4 => vp_in (nI i + 1) L ∧ S_R_kind M4 (M4 63 (Int32.toNatClampNeg (nI i + 1))) (fun r5 => ((r = r5 → D_Law_law_1153 (fun r _ => r = 1) (lp (D_Law_law_18 (fun r _ => r = 1)) n) (nI i, M4)) ∧ (¬ (r = r5) → (0 : Int32) = 1)))) (fun r M4 hk hR => ?_)
      refine ⟨g1, ?_⟩
      rw [hk.1]
      exact hR (fun r5 M5 => ((r = r5 → D_Law_law_1153 (fun r _ => r = 1) (lp (D_Law_law_18 (fun r _ => r = 1)) n) (nI i, M5)) ∧ (¬ (r = r5) → (0 : Int32) = 1))) (fun M2 hI2 hk2 => ⟨fun _ => hnext M2 hI2 hk2, fun h => absurd rfl h⟩)
    refine ⟨fun _ => ?_, fun _ => ?_⟩
    · refine ⟨g1, g2, ?_⟩
      refine hops.2.2.2.2.2.2.2.2.2.2.2.2.2.2.2.2.2.2.2.2.2.2.2.2.2.2.2.2.2.2.1 _ _ (fun r M4 => vp_in (nI i + 1) (alen M4 63) ∧ vp_in (nI i + 2) (alen M4 63) ∧ S_R_as M4 (M4 63 (Int32.toNatClampNeg (nI i + 1))) (M4 63 (Int32.toNatClampNeg (nI i + 2))) (fun r5 M5 => ((r = r5 → D_Law_law_1153 (fun r _ => r = 1) (lp (D_Law_law_18 (fun r _ => r = 1)) n) (nI i, M5)) ∧ (¬ (r = r5) → (0 : Int32) = 1)))) (fun r M4 hk hR => ?_)
      refine ⟨by rw [hal _ hk]; exact g1, by rw [hal _ hk]; exact g2, ?_⟩
      rw [hk.1]
      exact hR (fun r5 M5 => ((r = r5 → D_Law_law_1153 (fun r _ => r = 1) (lp (D_Law_law_18 (fun r _ => r = 1)) n) (nI i, M5)) ∧ (¬ (r = r5) → (0 : Int32) = 1))) (fun M2 hI2 hk2 => ⟨fun _ => hnext M2 hI2 hk2, fun h => absurd rfl h⟩)
    refine ⟨fun _ => ?_, fun _ => ?_⟩
    · refine ⟨g1, g2, ?_⟩
      refine hops.2.2.2.2.2.2.2.2.2.2.2.2.2.2.2.2.2.2.2.2.2.2.2.2.2.2.2.2.2.2.2.1 _ _ (fun r M4 => vp_in (nI i + 1) (alen M4 63) ∧ vp_in (nI i + 2) (alen M4 63) ∧ S_R_ask M4 (M4 63 (Int32.toNatClampNeg (nI i + 1))) (M4 63 (Int32.toNatClampNeg (nI i + 2))) (fun r5 M5 => ((r = r5 → D_Law_law_1153 (fun r _ => r = 1) (lp (D_Law_law_18 (fun r _ => r = 1)) n) (nI i, M5)) ∧ (¬ (r = r5) → (0 : Int32) = 1)))) (fun r M4 hk hR => ?_)
      refine ⟨by rw [hal _ hk]; exact g1, by rw [hal _ hk]; exact g2, ?_⟩
      rw [hk.1]
      exact hR (fun r5 M5 => ((r = r5 → D_Law_law_1153 (fun r _ => r = 1) (lp (D_Law_law_18 (fun r _ => r = 1)) n) (nI i, M5)) ∧ (¬ (r = r5) → (0 : Int32) = 1))) (fun M2 hI2 hk2 => ⟨fun _ => hnext M2 hI2 hk2, fun h => absurd rfl h⟩)
    refine ⟨fun _ => ?_, fun _ => ?_⟩
    · refine ⟨g1, ?_⟩
      refine hops.2.2.2.2.2.2.2.2.2.2.2.2.2.2.2.2.2.2.2.2.2.2.2.2.2.2.2.2.2.2.2.2.1 _ (fun r M4 => vp_in (nI i + 1) L ∧ S_R_trace M4 (M4 63 (Int32.toNatClampNeg (nI i + 1))) (fun r5 => ((r = r5 → D_Law_law_1153 (fun r _ => r = 1) (lp (D_Law_law_18 (fun r _ => r = 1)) n) (nI i, M4)) ∧ (¬ (r = r5) → (0 : Int32) = 1)))) (fun r M4 hk hR => ?_)
      refine ⟨g1, ?_⟩
      rw [hk.1]
      exact hR (fun r5 M5 => ((r = r5 → D_Law_law_1153 (fun r _ => r = 1) (lp (D_Law_law_18 (fun r _ => r = 1)) n) (nI i, M5)) ∧ (¬ (r = r5) → (0 : Int32) = 1))) (fun M2 hI2 hk2 => ⟨fun _ => hnext M2 hI2 hk2, fun h => absurd rfl h⟩)
    refine ⟨fun _ => ?_, fun _ => ?_⟩
    · refine ⟨g1, ?_⟩
      refine hops.2.2.2.2.2.2.2.2.2.2.2.2.2.2.2.2.2.2.2.2.2.2.2.2.2.2.2.2.2.2.2.2.2.1 _ (fun r M4 => vp_in (nI i + 1) L ∧ S_R_count M4 (M4 63 (Int32.toNatClampNeg (nI i + 1))) (fun r5 => ((r = r5 → D_Law_law_1153 (fun r _ => r = 1) (lp (D_Law_law_18 (fun r _ => r = 1)) n) (nI i, M4)) ∧ (¬ (r = r5) → (0 : Int32) = 1)))) (fun r M4 hk hR => ?_)
      refine ⟨g1, ?_⟩
      rw [hk.1]
      exact hR (fun r5 M5 => ((r = r5 → D_Law_law_1153 (fun r _ => r = 1) (lp (D_Law_law_18 (fun r _ => r = 1)) n) (nI i, M5)) ∧ (¬ (r = r5) → (0 : Int32) = 1))) (fun M2 hI2 hk2 => ⟨fun _ => hnext M2 hI2 hk2, fun h => absurd rfl h⟩)
    refine ⟨fun _ => ?_, fun _ => ?_⟩
    · skip
      refine hops.2.2.2.2.2.2.2.2.2.2.2.2.2.2.2.2.2.2.2.2.2.2.2.2.2.2.2.2.2.2.2.2.2.2 (fun r M4 => S_R_status M4 (fun r5 => ((r = r5 → D_Law_law_1153 (fun r _ => r = 1) (lp (D_Law_law_18 (fun r _ => r = 1)) n) (nI i, M4)) ∧ (¬ (r = r5) → (0 : Int32) = 1)))) (fun r M4 hk hR => ?_)
      exact hR (fun r5 M5 => ((r = r5 → D_Law_law_1153 (fun r _ => r = 1) (lp (D_Law_law_18 (fun r _ => r = 1)) n) (nI i, M5)) ∧ (¬ (r = r5) → (0 : Int32) = 1))) (fun M2 hI2 hk2 => ⟨fun _ => hnext M2 hI2 hk2, fun h => absurd rfl h⟩)
    exact hnext M hI ⟨rfl, rfl⟩
