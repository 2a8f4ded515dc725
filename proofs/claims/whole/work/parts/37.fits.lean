/-! fits -/
def tav (w : Nat → Int32) (r c p j : Nat) : Int32 := if w 3 ≤ nI (p + j) then 0 else if w 0 < ldv w r c (w (23 + (p + j))) then 0 else tnv w r c
def tlv (w : Nat → Int32) (r c p : Nat) (it : Nat → Int32) (n : Nat) : Int32 := if (∀ j, j < n → it j = tav w r c p j) then 1 else 0
/-- all but KIND and TEETH of a COG, and STRENGTH, alike -/
def Near (v w : Nat → Int32) : Prop := ∀ i, (1 ≤ i ∧ i ≤ 10) ∨ (23 ≤ i ∧ i < 29) → w i = v i
theorem ldv_congr {v w : Nat → Int32} (h : ∀ j, j < 35 → w j = v j) {r c : Nat} (hr : r < 3) (hc : c < 6) (s : Int32) : ldv w r c s = ldv v r c s := by
  unfold ldv; rw [h (11 + c) (by omega), h (8 + r) (by omega), h (17 + c) (by omega)]
theorem tnv_congr {v w : Nat → Int32} (h : ∀ j, j < 35 → w j = v j) {r c : Nat} (hr : r < 3) (hc : c < 6) : tnv w r c = tnv v r c := by
  unfold tnv; rw [h (11 + c) (by omega), h (8 + r) (by omega), h (17 + c) (by omega)]
theorem tav_congr {v w : Nat → Int32} (h : ∀ j, j < 35 → w j = v j) {r c : Nat} (hr : r < 3) (hc : c < 6) (p j : Nat) (hv : (v 3).toInt ≤ 6) (hp : p + j < 100) : tav w r c p j = tav v r c p j := by
  unfold tav
  rw [h 3 (by omega), h 0 (by omega), tnv_congr h hr hc]
  by_cases z : v 3 ≤ nI (p + j)
  · rw [if_pos z, if_pos z]
  · rw [if_neg z, if_neg z]
    rw [tI_le, nI_toInt (by omega)] at z
    rw [h (23 + (p + j)) (by omega), ldv_congr h hr hc]
theorem nlt_ge {a b : Int32} : (a ≤ b) ↔ ¬ (b < a) := by rw [tI_le, tI_lt]; omega
theorem op_runF {M : Mm} {S : (Int32 → Mm → Prop) → Prop} {SR : Mm → (Int32 → Mm → Prop) → Prop} {r : Int32} {M1 : Mm} {M2 : (Nat → Int32) → Mm} (h : Run S r M1) (hk : Keep M M1) (hR : ∀ Ψ : Int32 → Mm → Prop, (∀ F, Ψ r (M2 F)) → SR M1 Ψ) (hI : ∀ F, Inv (M2 F)) (hk2 : ∀ F, Keep M (M2 F)) : Op Inv M S SR :=
  fun Φ k => h Φ (k r M1 hk (fun Ψ hΨ => hR Ψ (fun F => hΨ (M2 F) (hI F) (hk2 F))))
section Fits
variable {M : Mm}
theorem v_tells {v w : Nat → Int32} (hR : RelB (M 7) (M 8) (M 9) (M 10) (M 11) (M 12) v) (hV : VB w) (hN : Near v w) {r c p at_ n : Nat} (hr : (r : Int) < (v 1).toInt) (hc : (c : Int) < (v 2).toInt) (hr3 : r < 3) (hc6 : c < 6) (e4 : v 4 = nI r) (e6 : v 6 = nI p) (hp : p ≤ 6) (hn : n ≤ 6) (hat : at_ + n ≤ 320) {κ t s : Int32} (eκ : κ = w (11 + c)) (et : t = w (17 + c)) (es : s = w 0) : Val (S_tells M (nI at_) (nI n) κ t s) (tlv w r c p (fun j => M 4 (at_ + j)) n) := by
  intro Φ h
  obtain ⟨⟨r1, r2, r3, r4, r5, r6, r7, r8⟩, hrg, hcc, hsl⟩ := id hR
  have e0 : (0 : Int32).toInt = 0 := by decide
  have n1 := hN 1 (by omega); have n2 := hN 2 (by omega); have n3 := hN 3 (by omega)
  have w3 := hV.1.2.2.1
  rw [n3] at w3
  have wc := hV.2.2.1 c (by rw [n2]; exact hc)
  have wr := hV.2.1 r (by rw [n1]; exact hr)
  have e7 : M 7 7 = nI p := r7.trans e6
  have e5 : M 7 5 = nI r := r5.trans e4
  refine lp_ex (fun q (a : Int32 × Int32 × Int32 × Int32 × Int32 × Int32) => ∃ j, j + q = n ∧ a = (nI at_, nI n, κ, t, s, nI j) ∧ ∀ i, i < j → M 4 (at_ + i) = tav w r c p i) ?_ ?_ (i := n) ⟨0, by omega, rfl, fun i hi => absurd hi (by omega)⟩
  · rintro a ⟨j, hj, rfl, hall⟩ rec
    obtain rfl : j = n := by omega
    refine ⟨fun _ => ?_, fun z => absurd (by rw [tI_le]; omega) z⟩
    unfold tlv at h; rw [if_pos hall] at h; exact h
  · rintro q a ⟨j, hj, rfl, hall⟩ rec hrec
    rw [D_tells_3, nI_add, nI_clamp (n := at_ + j) (by omega)]
    refine ⟨fun z => absurd z (nle n (by omega) (by omega)), fun _ => ⟨vp_in_nI (by omega) (by decide), ?_⟩⟩
    have fin : ∀ x, x = tav w r c p j → ((M 4 (at_ + j) = x → rec (nI at_, nI n, κ, t, s, nI j + 1)) ∧ (¬ M 4 (at_ + j) = x → Φ 0)) := by
      intro x ex
      refine ⟨fun z => hrec _ ⟨j + 1, by omega, by rw [nI_inc], fun i hi => ?_⟩, fun z => ?_⟩
      · by_cases q : i = j
        · rw [q, z, ex]
        · exact hall i (by omega)
      · unfold tlv at h
        rw [if_neg (fun q => z ((q j (by omega)).trans ex.symm))] at h; exact h
    unfold S_Bike_turnsAhead
    rw [e7, e5, nI_add]
    refine v_hasPiece 7 M _ _ ⟨fun z => fin _ ?_, fun z => ?_⟩
    · have z := wi_0 z
      rw [r3, sub1 (by omega), nI_toInt (by omega), e0] at z
      unfold tav
      rw [if_pos (by rw [tI_le, n3, nI_toInt (by omega)]; omega)]
    · have z := wi_1 z
      rw [r3, sub1 (by omega), nI_toInt (by omega), e0] at z
      have hpj : ((p + j : Nat) : Int) < (v 3).toInt := by omega
      rw [nI_clamp (n := r) (by omega), nI_clamp (n := p + j) (by omega), show M (7 + 1) r = w (8 + r) by rw [hN (8 + r) (by omega)]; exact hrg r hr, show M (7 + 5) (p + j) = w (23 + (p + j)) by rw [hN _ (by omega)]; exact hsl _ hpj]
      have hne : ¬ w 3 ≤ nI (p + j) := by rw [tI_le, n3, nI_toInt (by omega)]; omega
      refine ⟨vp_in_nI hr3 (by decide), vp_in_nI (by omega) (by decide), v_loadBy M (by rw [et]; omega) _ ?_⟩
      have el : (if κ = 4 ∨ κ = 5 then (((w (23 + (p + j)) + 1) * w (8 + r)) * 10) / t - ((((w (23 + (p + j)) + 1) * w (8 + r)) * 10) / t) / 10 else (((w (23 + (p + j)) + 1) * w (8 + r)) * 10) / t) = ldv w r c (w (23 + (p + j))) := by
        unfold ldv
        rw [eκ, et]
        by_cases h4 : (w (11 + c)).toInt < 4
        · rw [if_pos h4, if_neg (fun q => (kind_lt wc.1.1 wc.1.2).mp q h4)]
        · rw [if_neg h4, if_pos ((kind_lt wc.1.1 wc.1.2).mpr h4)]
      rw [el]
      refine ⟨fun z2 => ⟨vp_in_nI hr3 (by decide), v_turnsBy M (by omega) _ (fin _ ?_)⟩, fun z2 => fin _ ?_⟩
      · rw [es, nlt_ge] at z2
        unfold tav tnv; rw [if_neg hne, if_neg z2, eκ, et]
      · rw [es, nlt_ge] at z2
        unfold tav; rw [if_neg hne, if_pos (Classical.not_not.mp z2)]
theorem vr_isSo (hV : VB (M 45)) {r c p row i n : Nat} (hr : (r : Int) < (M 45 1).toInt) (hc : (c : Int) < (M 45 2).toInt) (hr3 : r < 3) (hc6 : c < 6) (er : (6 * M 45 4 + M 45 5) / 6 = nI r) (ec : irm (6 * M 45 4 + M 45 5) 6 = nI c) (e6 : M 45 6 = nI p) (hp : p ≤ 6) (hn : n ≤ 6) (hrow : row < 8) (hin : i + n ≤ 40) : Val (S_R_isSo M (nI row) (nI i) (nI n)) (tlv (M 45) r c p (fun j => M 42 (40 * row + i + j)) n) := by
  intro Φ h
  have w3 := hV.1.2.2.1
  refine lp_ex (fun q (a : Int32 × Int32 × Int32 × Int32 × Int32) => ∃ j fl, j + q = n ∧ a = (nI row, nI i, nI n, fl, nI j) ∧ fl = (if (∀ z, z < j → M 42 (40 * row + i + z) = tav (M 45) r c p z) then 1 else 0)) ?_ ?_ (i := n) ⟨0, 1, by omega, rfl, by rw [if_pos (fun z hz => absurd hz (by omega))]⟩
  · rintro a ⟨j, fl, hj, rfl, hfl⟩ rec
    obtain rfl : j = n := by omega
    refine ⟨fun _ => ⟨by rw [hfl]; split <;> simp, ?_⟩, fun z => absurd (by rw [tI_le]; omega) z⟩
    rw [hfl]; exact h
  · rintro q a ⟨j, fl, hj, rfl, hfl⟩ rec hrec
    have k103 : ∀ fl', fl' = (if (∀ z, z < j + 1 → M 42 (40 * row + i + z) = tav (M 45) r c p z) then (1 : Int32) else 0) → D_R_isSo_103 M Φ rec (nI row, nI i, nI n, nI j, fl') := fun fl' e => hrec _ ⟨j + 1, fl', by omega, by rw [nI_inc], e⟩
    have k72 : ∀ x, x = tav (M 45) r c p j → D_R_isSo_72 M Φ rec (nI row, nI i, nI n, fl, nI j, x) := by
      intro x ex
      rw [D_R_isSo_72, place3, nI_clamp (by omega)]
      refine ⟨fun z => k103 0 ?_, fun z => ⟨vp_in_nI (by omega) (by decide), fun z2 => k103 1 ?_, fun z2 => k103 0 ?_⟩⟩
      · rw [if_neg]
        intro q
        rw [if_pos (fun z hz => q z (by omega))] at hfl
        rw [hfl] at z; exact absurd z (by decide)
      · rw [if_pos]
        intro y hy
        by_cases q : y = j
        · rw [q, z2, ex]
        · by_cases q2 : ∀ z, z < j → M 42 (40 * row + i + z) = tav (M 45) r c p z
          · exact q2 y (by omega)
          · rw [if_neg q2] at hfl; exact absurd hfl z
      · rw [if_neg]
        intro q
        exact z2 ((q j (by omega)).trans ex.symm)
    have ep : M 45 (Int32.toNatClampNeg 6) + nI j = nI (p + j) := by
      rw [show M 45 (Int32.toNatClampNeg 6) = nI p from e6, nI_add]
    rw [D_R_isSo_6, ep]
    refine ⟨fun z => absurd z (nle n (by omega) (by omega)), fun _ => ⟨fun z => k72 0 ?_, fun z => ?_⟩⟩
    · have z : M 45 3 ≤ nI (p + j) := z
      unfold tav; rw [if_pos z]
    · have z : ¬ M 45 3 ≤ nI (p + j) := z
      have z' := z
      rw [tI_le, nI_toInt (by omega)] at z'
      unfold S_R_gearOf
      refine vr_bears hV hr hc hr3 hc6 er ec (j := p + j) rfl (by omega) _ ?_
      by_cases q : M 45 0 < ldv (M 45) r c (M 45 (23 + (p + j)))
      · rw [if_pos q]
        refine ht rfl (k72 0 ?_)
        unfold tav; rw [if_neg z, if_pos q]
      · rw [if_neg q]
        refine sk (by decide) (vr_turnsOf hV hr hc hr3 hc6 er ec _ (k72 _ ?_))
        unfold tav; rw [if_neg z, if_neg q]
theorem vr_take : RunV (S_R_take M) (ms M 45 (va_cpy (M 44) (M 45) 0 0 35)) := by
  intro Φ h
  refine lp_ex (fun q (a : Int32 × Mm) => ∃ j, j + q = 35 ∧ a = (nI j, ms M 45 (va_cpy (M 44) (M 45) 0 0 j))) ?_ ?_ (i := 35) ⟨0, by omega, ?_⟩
  · rintro a ⟨j, hj, rfl⟩ rec
    obtain rfl : j = 35 := by omega
    exact ⟨fun _ => h, fun z => absurd (by decide) z⟩
  · rintro q a ⟨j, hj, rfl⟩ rec hrec
    rw [D_R_take_2]
    refine ⟨fun z => absurd z (nle 35 (by omega) (by omega)), fun _ => ⟨vp_in_nI (by omega) (by decide), vp_in_nI (by omega) (by decide), fun M4 e => hrec _ ⟨j + 1, by omega, ?_⟩⟩⟩
    rw [e, nI_clamp (by omega), nI_inc, mu_ms, ← cpy_s _ _ _ _ j, Nat.zero_add]
    rfl
  · rw [cpy_0, ms_self]; rfl
/-- which of the values from a on, n of them, fit: a set, how many, the least -/
def fitO (T : Nat → Int32) (h : Nat → Int32) : Nat → Nat → Int32
  | _, 0 => 0
  | a, n + 1 => if T a = 0 then fitO T h (a + 1) n else h a ||| fitO T h (a + 1) n
def fitS (T : Nat → Int32) : Nat → Nat → Int32
  | _, 0 => 0
  | a, n + 1 => if T a = 0 then fitS T (a + 1) n else fitS T (a + 1) n + 1
def fitL (T : Nat → Int32) : Nat → Nat → Int32
  | _, 0 => -1000000
  | a, n + 1 => if T a = 0 then fitL T (a + 1) n else nI a
/-- a row with another number at one place -/
def wx (v : Nat → Int32) (wh : Nat) (x : Nat) : Nat → Int32 := upd v wh (nI x)
theorem wx_near {v : Nat → Int32} {wh : Nat} (h : wh = 0 ∨ (11 ≤ wh ∧ wh < 23)) (x : Nat) : Near v (wx v wh x) := fun i hi => pk_un (by omega)
/-- a row that is tried is a BIKE -/
theorem wx_vb {v : Nat → Int32} (hV : VB v) {wh x : Nat} (h : (wh = 0 ∧ 1 ≤ x ∧ x ≤ 99) ∨ (11 ≤ wh ∧ wh < 17 ∧ 1 ≤ x ∧ x ≤ 5) ∨ (17 ≤ wh ∧ wh < 23 ∧ 10 ≤ x ∧ x ≤ 40)) : VB (wx v wh x) := by
  have hN := wx_near (v := v) (wh := wh) (by omega) x
  have gx := nI_toInt (n := x) (by omega)
  obtain ⟨⟨a1, a2, a3, a4, a5, a6, a7, a8⟩, vr, vc, vs⟩ := hV
  have n1 := hN 1 (by omega); have n2 := hN 2 (by omega); have n3 := hN 3 (by omega); have n4 := hN 4 (by omega)
  have n5 := hN 5 (by omega); have n6 := hN 6 (by omega); have n7 := hN 7 (by omega)
  unfold VB
  rw [n1, n2, n3, n4, n5, n6, n7]
  refine ⟨⟨a1, a2, a3, ?_, a5, a6, a7, a8⟩, fun i hi => ?_, fun i hi => ?_, fun i hi => ?_⟩
  · by_cases q : 0 = wh
    · rw [← q]; unfold wx; rw [pk_us, gx]; omega
    · unfold wx; rw [pk_un q]; exact a4
  · rw [hN _ (by omega)]; exact vr i hi
  · have b := vc i hi
    refine ⟨?_, ?_, ?_⟩
    · by_cases q : 11 + i = wh
      · rw [q]; unfold wx; rw [pk_us, gx]; omega
      · unfold wx; rw [pk_un q]; exact b.1
    · by_cases q : 17 + i = wh
      · rw [q]; unfold wx; rw [pk_us, gx]; omega
      · unfold wx; rw [pk_un q]; exact b.2.1
    · unfold wx; rw [pk_un (by omega)]; exact b.2.2
  · rw [hN _ (by omega)]; exact vs i hi
theorem v_sorts {T : Nat → Int32} {at_ n c : Nat} (e6 : M 7 6 = nI c) (hc6 : c < 6) (hT : ∀ x, 1 ≤ x → x ≤ 5 → Val (S_tells M (nI at_) (nI n) (nI x) (M 10 c) (M 7 4)) (T x)) : Val (S_sortsThatFit M (nI at_) (nI n)) (fitO T (fun x => 1 <<< (nI x &&& 31)) 1 5) := by
  intro Φ h
  refine lp_ex (fun q (a : Int32 × Int32 × Int32 × Int32) => ∃ x acc, x + q = 6 ∧ 1 ≤ x ∧ a = (nI at_, nI n, acc, nI x) ∧ Φ (acc ||| fitO T (fun x => 1 <<< (nI x &&& 31)) x q)) ?_ ?_ (i := 5) ⟨1, 0, by omega, by omega, rfl, by rw [Int32.zero_or]; exact h⟩
  · rintro a ⟨x, acc, hx, h1, rfl, hΦ⟩ rec
    obtain rfl : x = 6 := by omega
    refine ht (by decide) ?_
    have hΦ : Φ (acc ||| 0) := hΦ
    rw [Int32.or_zero] at hΦ; exact hΦ
  · rintro q a ⟨x, acc, hx, h1, rfl, hΦ⟩ rec hrec
    rw [D_sortsThatFit_5, e6, nI_clamp (n := c) (by omega)]
    refine sk (by rw [tI_lt, nI_toInt (by omega), show (5 : Int32).toInt = 5 by decide]; omega) ⟨vp_in_nI hc6 (by decide), hT x h1 (by omega) _ ⟨fun z => hrec _ ⟨x + 1, acc, by omega, by omega, by rw [nI_inc], ?_⟩, fun z => hrec _ ⟨x + 1, _, by omega, by omega, by rw [nI_inc], ?_⟩⟩⟩
    · rw [fitO, if_pos z] at hΦ; exact hΦ
    · rw [fitO, if_neg z, ← Int32.or_assoc] at hΦ; exact hΦ
theorem v_teeth {T : Nat → Int32} {at_ n c : Nat} (e6 : M 7 6 = nI c) (hc6 : c < 6) (jl : Int32) (hT : ∀ x, 10 ≤ x → x ≤ 40 → Val (S_tells M (nI at_) (nI n) (M 9 c) (nI x) (M 7 4)) (T x)) : Val (S_teethThatFit M (nI at_) (nI n) jl) (if jl = 0 then fitS T 10 31 else fitL T 10 31) := by
  intro Φ h
  refine lp_ex (fun q (a : Int32 × Int32 × Int32 × Int32 × Int32) => ∃ x acc, x + q = 41 ∧ 10 ≤ x ∧ a = (nI at_, nI n, jl, acc, nI x) ∧ Φ (if jl = 0 then fitS T x q + acc else fitL T x q)) ?_ ?_ (i := 31) ⟨10, 0, by omega, by omega, rfl, by rw [Int32.add_zero]; exact h⟩
  · rintro a ⟨x, acc, hx, h1, rfl, hΦ⟩ rec
    obtain rfl : x = 41 := by omega
    refine ht (by decide) ⟨fun z => ?_, fun z => ?_⟩
    · rw [if_pos z] at hΦ
      have hΦ : Φ (0 + acc) := hΦ
      rw [Int32.zero_add] at hΦ; exact hΦ
    · rw [if_neg z] at hΦ; exact hΦ
  · rintro q a ⟨x, acc, hx, h1, rfl, hΦ⟩ rec hrec
    rw [D_teethThatFit_7, e6, nI_clamp (n := c) (by omega)]
    refine sk (by rw [tI_lt, nI_toInt (by omega), show (40 : Int32).toInt = 40 by decide]; omega) ⟨vp_in_nI hc6 (by decide), hT x h1 (by omega) _ ⟨fun z => hrec _ ⟨x + 1, acc, by omega, by omega, by rw [nI_inc], ?_⟩, fun z => ⟨fun j0 => hrec _ ⟨x + 1, _, by omega, by omega, by rw [nI_inc], ?_⟩, fun j0 => ?_⟩⟩⟩
    · rw [fitS, fitL, if_pos z, if_pos z] at hΦ; exact hΦ
    · rw [fitS, if_neg z, if_pos j0, Int32.add_assoc, Int32.add_comm 1 acc] at hΦ
      rw [if_pos j0]; exact hΦ
    · rw [fitL, if_neg j0, if_neg z] at hΦ; exact hΦ
theorem v_strengths {T : Nat → Int32} {at_ n c : Nat} (e6 : M 7 6 = nI c) (hc6 : c < 6) (jl : Int32) (hT : ∀ x, 1 ≤ x → x ≤ 99 → Val (S_tells M (nI at_) (nI n) (M 9 c) (M 10 c) (nI x)) (T x)) : Val (S_strengthsThatFit M (nI at_) (nI n) jl) (if jl = 0 then fitS T 1 99 else fitL T 1 99) := by
  intro Φ h
  refine lp_ex (fun q (a : Int32 × Int32 × Int32 × Int32 × Int32) => ∃ x acc, x + q = 100 ∧ 1 ≤ x ∧ a = (nI at_, nI n, jl, acc, nI x) ∧ Φ (if jl = 0 then fitS T x q + acc else fitL T x q)) ?_ ?_ (i := 99) ⟨1, 0, by omega, by omega, rfl, by rw [Int32.add_zero]; exact h⟩
  · rintro a ⟨x, acc, hx, h1, rfl, hΦ⟩ rec
    obtain rfl : x = 100 := by omega
    refine ht (by decide) ⟨fun z => ?_, fun z => ?_⟩
    · rw [if_pos z] at hΦ
      have hΦ : Φ (0 + acc) := hΦ
      rw [Int32.zero_add] at hΦ; exact hΦ
    · rw [if_neg z] at hΦ; exact hΦ
  · rintro q a ⟨x, acc, hx, h1, rfl, hΦ⟩ rec hrec
    rw [D_strengthsThatFit_6, e6, nI_clamp (n := c) (by omega)]
    refine sk (by rw [tI_lt, nI_toInt (by omega), show (99 : Int32).toInt = 99 by decide]; omega) ⟨vp_in_nI hc6 (by decide), vp_in_nI hc6 (by decide), hT x h1 (by omega) _ ⟨fun z => hrec _ ⟨x + 1, acc, by omega, by omega, by rw [nI_inc], ?_⟩, fun z => ⟨fun j0 => hrec _ ⟨x + 1, _, by omega, by omega, by rw [nI_inc], ?_⟩, fun j0 => ?_⟩⟩⟩
    · rw [fitS, fitL, if_pos z, if_pos z] at hΦ; exact hΦ
    · rw [fitS, if_neg z, if_pos j0, Int32.add_assoc, Int32.add_comm 1 acc] at hΦ
      rw [if_pos j0]; exact hΦ
    · rw [fitL, if_neg j0, if_neg z] at hΦ; exact hΦ
/-- the reference's loop, down from the last value -/
theorem vr_fitsLoop (hV : VB (M 44)) {T : Nat → Int32} {row i n wh lo m r c p : Nat} {w : Int32} (hr : (r : Int) < (M 44 1).toInt) (hc : (c : Int) < (M 44 2).toInt) (hr3 : r < 3) (hc6 : c < 6) (er : (6 * M 44 4 + M 44 5) / 6 = nI r) (ec : irm (6 * M 44 4 + M 44 5) 6 = nI c) (e6 : M 44 6 = nI p) (hp : p ≤ 6) (hn : n ≤ 6) (hrow : row < 8) (hin : i + n ≤ 40) (hlo : 1 ≤ lo) (hlm : lo + m ≤ 100) (hwh : wh < 35) (hwx : ∀ x, lo ≤ x → x < lo + m → VB (wx (M 44) wh x)) (hnear : wh = 0 ∨ (11 ≤ wh ∧ wh < 23)) (hT : ∀ x, lo ≤ x → x < lo + m → T x = tlv (wx (M 44) wh x) r c p (fun j => M 42 (40 * row + i + j)) n) (Φ : Int32 → Mm → Prop) (h : ∀ F, Φ (if w = 0 then fitO T (fun x => 1 <<< (nI x &&& 31)) lo m else if w = 1 ∨ w = 3 then fitS T lo m else fitL T lo m) (mu (ms M 45 F) 39 3 0)) : D_R_fits_154 Φ (nI row, nI i, nI n, w, nI lo, nI (lo + m) - 1, nI wh, M) := by
  rw [D_R_fits_154]
  have est : nI (lo + m) - 1 = nI (lo + m - 1) := pk_sub (a := lo + m) (b := 1) (by omega)
  rw [est]
  have gl := nI_toInt (n := lo) (by omega)
  refine lp_ex (fun q (a : Int32 × Int32 × Int32 × Int32 × Int32 × Int32 × Int32 × Int32 × Int32 × Int32 × Mm) => ∃ (F : Nat → Int32) (O : Int32), q ≤ m ∧ (w = 0 → O = fitO T (fun x => 1 <<< (nI x &&& 31)) (lo + q) (m - q)) ∧ a = (nI row, nI i, nI n, w, nI lo, nI wh, O, fitS T (lo + q) (m - q), fitL T (lo + q) (m - q), nI (lo + q - 1), ms M 45 F)) ?_ ?_ (i := m) ⟨M 45, 0, Nat.le_refl m, fun _ => by rw [Nat.sub_self]; rfl, by rw [Nat.sub_self, ms_self]; rfl⟩
  · rintro a ⟨F, O, hq, hO, rfl⟩ rec
    have g1 := nI_toInt (n := lo + 0 - 1) (by omega)
    rw [D_R_fits_170]
    refine ht (by rw [tI_lt, g1, gl]; omega) ⟨fun z => fun M1 e => ?_, fun z => ⟨fun z1 => fun M1 e => ?_, fun z1 => ⟨fun z3 => fun M1 e => ?_, fun z3 => fun M1 e => ?_⟩⟩⟩
    · have := h F
      rw [if_pos z] at this
      rw [e, hO z]; exact this
    · have := h F
      rw [if_neg z, if_pos (Or.inl z1)] at this
      rw [e]; exact this
    · have := h F
      rw [if_neg z, if_pos (Or.inr z3)] at this
      rw [e]; exact this
    · have := h F
      rw [if_neg z, if_neg (fun q => q.elim z1 z3)] at this
      rw [e]; exact this
  · rintro q a ⟨F, O, hq, hO, rfl⟩ rec hrec
    have hx1 : lo + (q + 1) - 1 = lo + q := by omega
    have hmq : m - q = m - (q + 1) + 1 := by omega
    have g1 := nI_toInt (n := lo + q) (by omega)
    rw [D_R_fits_170, hx1]
    refine sk (by rw [tI_lt, g1, gl]; omega) (vr_take _ ⟨vp_in_nI hwh (by decide), fun M16 e16 => ?_⟩)
    obtain ⟨G, hG⟩ : ∃ G, G = upd (va_cpy (M 44) F 0 0 35) wh (nI (lo + q)) := ⟨_, rfl⟩
    have k16 : M16 = ms M 45 G := by
      rw [e16, nI_clamp (n := wh) (by omega), ms_ms, mu_ms, ms_at, hG]
      rfl
    have kG : ∀ j, j < 35 → G j = wx (M 44) wh (lo + q) j := by
      intro j hj
      rw [hG]; unfold wx
      by_cases z : j = wh
      · rw [z, pk_us, pk_us]
      · rw [pk_un z, pk_un z]; exact cpy00 (M 44) F j hj
    have hN := wx_near (v := M 44) hnear (lo + q)
    have hVw := hwx (lo + q) (by omega) (by omega)
    have hVG : VB G := hVw.congr kG
    have k1 : G 1 = M 44 1 := (kG 1 (by decide)).trans (hN 1 (by omega))
    have k2 : G 2 = M 44 2 := (kG 2 (by decide)).trans (hN 2 (by omega))
    have k4 : G 4 = M 44 4 := (kG 4 (by decide)).trans (hN 4 (by omega))
    have k5 : G 5 = M 44 5 := (kG 5 (by decide)).trans (hN 5 (by omega))
    have k6 : G 6 = M 44 6 := (kG 6 (by decide)).trans (hN 6 (by omega))
    have h45 : M16 45 = G := by rw [k16, ms_at]
    have h42 : M16 42 = M 42 := by rw [k16]; rfl
    have eT : tlv (M16 45) r c p (fun j => M16 42 (40 * row + i + j)) n = T (lo + q) := by
      rw [hT (lo + q) (by omega) (by omega), h45, h42]
      unfold tlv
      have : ∀ j, j < n → tav G r c p j = tav (wx (M 44) wh (lo + q)) r c p j := fun j hj => tav_congr kG hr3 hc6 p j hVw.1.2.2.1.2 (by omega)
      by_cases z : ∀ j, j < n → M 42 (40 * row + i + j) = tav G r c p j
      · rw [if_pos z, if_pos (fun j hj => (z j hj).trans (this j hj))]
      · rw [if_neg z, if_neg (fun y => z (fun j hj => (y j hj).trans (this j hj).symm))]
    refine vr_isSo (M := M16) (by rw [h45]; exact hVG) (by rw [h45, k1]; exact hr) (by rw [h45, k2]; exact hc) hr3 hc6 (by rw [h45, k4, k5]; exact er) (by rw [h45, k4, k5]; exact ec) (by rw [h45, k6]; exact e6) hp hn hrow hin _ ?_
    rw [eT, k16]
    have key : ∀ (O' S L : Int32), (w = 0 → O' = fitO T (fun x => 1 <<< (nI x &&& 31)) (lo + q) (m - q)) → S = fitS T (lo + q) (m - q) → L = fitL T (lo + q) (m - q) → D_R_fits_225 Φ rec (nI row, nI i, nI n, w, nI lo, nI wh, O', S, L, nI (lo + q), ms M 45 G) := by
      intro O' S L hO' hS hL
      refine hrec _ ⟨G, O', by omega, hO', ?_⟩
      rw [hS, hL]
      have : nI (lo + q) + (-1) = nI (lo + q - 1) := by
        have := pk_m1 (lo + q - 1)
        rw [show lo + q - 1 + 1 = lo + q by omega] at this
        exact this
      rw [this]
    refine ⟨fun z => key _ _ _ ?_ ?_ ?_, fun z => ⟨fun z0 => key _ _ _ ?_ ?_ ?_, fun z0 => key _ _ _ ?_ ?_ ?_⟩⟩
    · intro w0; rw [hmq, fitO, if_pos z, hO w0]; rfl
    · rw [hmq, fitS, if_pos z]; rfl
    · rw [hmq, fitL, if_pos z]; rfl
    · intro w0; rw [hmq, fitO, if_neg z, hO w0, Int32.or_comm]; rfl
    · rw [hmq, fitS, if_neg z]; rfl
    · rw [hmq, fitL, if_neg z]
    · intro w0; exact absurd w0 z0
    · rw [hmq, fitS, if_neg z]; rfl
    · rw [hmq, fitL, if_neg z]
end Fits
