/-! ask, whole -/
section AskR
variable {v : Nat → Int32} {c : Nat}
theorem rb11 (hc : c < 6) {l : List Int32} {r : Int32} (hm : Rb v (fun M Φ => S_R_markOfPlain M (nI c) Φ) l r) : Rb v (fun M Φ => S_R_body11 M (nI c) Φ) (11 :: 10 :: l) (v (17 + c) + r) := by
  intro M n Φ hv hn hl h
  have hl : n + (l.length + 2) ≤ 16 := hl
  refine vr_leave (by omega) hn 11 _ ?_
  refine rb10 (v := v) hc (Lr M n 11) (n + 1) _ hv rfl (by show n + 1 + 1 ≤ 16; omega) ?_
  exact hm (lvR (Lr M n 11) (n + 1) [10]) (n + 2) _ hv rfl (by omega) h
theorem rb13 (hc : c < 6) : Rb v (fun M Φ => S_R_body13 M (nI c) Φ) [13, 10] (v (17 + c) - 100) := by
  intro M n Φ hv hn hl h
  have hl : n + 2 ≤ 16 := hl
  refine vr_leave (by omega) hn 13 _ ?_
  exact rb10 (v := v) hc (Lr M n 13) (n + 1) _ hv rfl (by show n + 1 + 1 ≤ 16; omega) h
theorem rbS (hc : c < 6) {κ : Nat} (hκ : κ ≤ 5) (ek : v (11 + c) = nI κ) {M : Mm} {n : Nat} {Φ : Int32 → Mm → Prop} (hv : M 44 = v) (h2 : κ = 2 → S_R_leave M 12 (fun M2 => S_R_body11 M2 (nI c) (fun r3 M3 => Φ (-r3) M3))) (h3 : κ = 3 → S_R_body11 M (nI c) (fun r5 M5 => Φ r5 M5)) (h4 : κ = 4 → S_R_body13 M (nI c) (fun r7 M7 => Φ r7 M7)) (h5 : κ = 5 → S_R_leave M 14 (fun M9 => S_R_body13 M9 (nI c) (fun r10 M10 => Φ (2 * r10) M10))) (h1 : ¬ κ = 2 → ¬ κ = 3 → ¬ κ = 4 → ¬ κ = 5 → S_R_body11 M (nI c) (fun r11 M11 => Φ r11 M11)) : S_R_sizeOf M (nI c) Φ := by
  have e11 : (11 : Int32) + nI c = nI (11 + c) := nI8 11 rfl
  have q2 : (nI κ = 2) ↔ κ = 2 := nI_inj (b := 2) (by omega) (by decide)
  have q3 : (nI κ = 3) ↔ κ = 3 := nI_inj (b := 3) (by omega) (by decide)
  have q4 : (nI κ = 4) ↔ κ = 4 := nI_inj (b := 4) (by omega) (by decide)
  have q5 : (nI κ = 5) ↔ κ = 5 := nI_inj (b := 5) (by omega) (by decide)
  unfold S_R_sizeOf
  rw [e11, nI_clamp (by omega), hv, ek, q2, q3, q4, q5]
  exact ⟨vp_in_nI (by omega) (by decide), h2, fun z2 => ⟨h3, fun z3 => ⟨h4, fun z4 => ⟨h5, fun z5 => h1 z2 z3 z4 z5⟩⟩⟩⟩
theorem rbSize1 (hc : c < 6) (ek : v (11 + c) = nI 1) : Rb v (fun M Φ => S_R_sizeOf M (nI c) Φ) [11, 10, 21, 20] (v (17 + c) + (nI c + v (29 + c))) := by
  intro M n Φ hv hn hl h
  refine rbS hc (κ := 1) (n := n) (by decide) ek hv (fun z => absurd z (by decide)) (fun z => absurd z (by decide)) (fun z => absurd z (by decide)) (fun z => absurd z (by decide)) (fun _ _ _ _ => ?_)
  have hm : Rb v (fun M Φ => S_R_markOfPlain M (nI c) Φ) [21, 20] (nI c + v (29 + c)) := rbMark hc (κ := 1) (by decide) (by decide) ek
  exact rb11 hc hm M n _ hv hn hl h
theorem rbSize2 (hc : c < 6) (ek : v (11 + c) = nI 2) : Rb v (fun M Φ => S_R_sizeOf M (nI c) Φ) [12, 11, 10, 24, 21, 20] (-(v (17 + c) + 2 * (nI c + v (29 + c)))) := by
  intro M n Φ hv hn hl h
  have hl : n + 6 ≤ 16 := hl
  refine rbS hc (κ := 2) (n := n) (by decide) ek hv (fun _ => ?_) (fun z => absurd z (by decide)) (fun z => absurd z (by decide)) (fun z => absurd z (by decide)) (fun z _ _ _ => absurd rfl z)
  refine vr_leave (by omega) hn 12 _ ?_
  have hm : Rb v (fun M Φ => S_R_markOfPlain M (nI c) Φ) [24, 21, 20] (2 * (nI c + v (29 + c))) := rbMark hc (κ := 2) (by decide) (by decide) ek
  have h11 := rb11 hc hm
  rw [lvR] at h
  exact h11 (Lr M n 12) (n + 1) (fun r3 M3 => Φ (-r3) M3) hv rfl (by show n + 1 + 5 ≤ 16; omega) h
theorem rbSize3 (hc : c < 6) (ek : v (11 + c) = nI 3) : Rb v (fun M Φ => S_R_sizeOf M (nI c) Φ) [11, 10, 22, 21, 20] (v (17 + c) + (nI c + v (29 + c) - 1000)) := by
  intro M n Φ hv hn hl h
  refine rbS hc (κ := 3) (n := n) (by decide) ek hv (fun z => absurd z (by decide)) (fun _ => ?_) (fun z => absurd z (by decide)) (fun z => absurd z (by decide)) (fun _ z _ _ => absurd rfl z)
  have hm : Rb v (fun M Φ => S_R_markOfPlain M (nI c) Φ) [22, 21, 20] (nI c + v (29 + c) - 1000) := rbMark hc (κ := 3) (by decide) (by decide) ek
  exact rb11 hc hm M n _ hv hn hl h
theorem rbSize4 (hc : c < 6) (ek : v (11 + c) = nI 4) : Rb v (fun M Φ => S_R_sizeOf M (nI c) Φ) [13, 10] (v (17 + c) - 100) := by
  intro M n Φ hv hn hl h
  refine rbS hc (κ := 4) (n := n) (by decide) ek hv (fun z => absurd z (by decide)) (fun z => absurd z (by decide)) (fun _ => ?_) (fun z => absurd z (by decide)) (fun _ _ z _ => absurd rfl z)
  exact rb13 hc M n _ hv hn hl h
theorem rbSize5 (hc : c < 6) (ek : v (11 + c) = nI 5) : Rb v (fun M Φ => S_R_sizeOf M (nI c) Φ) [14, 13, 10] (2 * (v (17 + c) - 100)) := by
  intro M n Φ hv hn hl h
  have hl : n + 3 ≤ 16 := hl
  refine rbS hc (κ := 5) (n := n) (by decide) ek hv (fun z => absurd z (by decide)) (fun z => absurd z (by decide)) (fun z => absurd z (by decide)) (fun _ => ?_) (fun _ _ _ z => absurd rfl z)
  refine vr_leave (by omega) hn 14 _ ?_
  exact rb13 (v := v) hc (Lr M n 14) (n + 1) _ hv rfl (by show n + 1 + 2 ≤ 16; omega) h
theorem rbM (hc : c < 6) {κ : Nat} (hκ : κ ≤ 3) (ek : v (11 + c) = nI κ) {l : List Int32} {r : Int32} (hm : Rb v (fun M Φ => S_R_markOfPlain M (nI c) Φ) l r) : Rb v (fun M Φ => S_R_markOf M (nI c) Φ) l r := by
  intro M n Φ hv hn hl h
  have e11 : (11 : Int32) + nI c = nI (11 + c) := nI8 11 rfl
  show S_R_markOf M (nI c) Φ
  unfold S_R_markOf
  rw [e11, nI_clamp (by omega), hv, ek]
  exact ⟨vp_in_nI (by omega) (by decide), sk (nle 4 (by omega) (by decide)) (hm M n _ hv hn hl h)⟩
theorem rbM4 (hc : c < 6) {κ : Nat} (h4 : 4 ≤ κ) (hκ : κ ≤ 5) (ek : v (11 + c) = nI κ) {l : List Int32} {r : Int32} (hm : Rb v (fun M Φ => S_R_sizeOf M (nI c) Φ) l r) : Rb v (fun M Φ => S_R_markOf M (nI c) Φ) (23 :: 20 :: l) (nI c - r) := by
  intro M n Φ hv hn hl h
  have hl : n + (l.length + 2) ≤ 16 := hl
  have e11 : (11 : Int32) + nI c = nI (11 + c) := nI8 11 rfl
  show S_R_markOf M (nI c) Φ
  unfold S_R_markOf
  rw [e11, nI_clamp (by omega), hv, ek]
  refine ⟨vp_in_nI (by omega) (by decide), ht ((nI_le_iff (a := 4) (by decide) (by omega)).mpr h4) ?_⟩
  refine vr_leave (by omega) hn 23 _ ?_
  refine rb20 (v := v) (Lr M n 23) (n + 1) _ hv rfl (by show n + 1 + 1 ≤ 16; omega) ?_
  exact hm (lvR (Lr M n 23) (n + 1) [20]) (n + 2) _ hv rfl (by omega) h
end AskR
section Ask
variable {M : Mm}
theorem ask_fin (hI : Inv M) {a w r : Int32} {l : List Int32} (hl : l.length ≤ 16) (hc : Run (fun Φ => S_ask M a w Φ) r (lvC (mu M 37 1 0) 0 l)) (hr : Run (fun Φ => S_R_ask (lvC (mu M 37 1 0) 0 l) a w Φ) r (lvR (mu (lvC (mu M 37 1 0) 0 l) 39 22 0) 0 l)) : Op Inv M (fun Φ => S_ask M a w Φ) (fun M1 Ψ => S_R_ask M1 a w Ψ) := by
  have k1 : ∀ j, ¬ j = 37 → ¬ j = 38 → lvC (mu M 37 1 0) 0 l j = M j := fun j h1 h2 => by rw [lvC_ne l h1 h2, mu_ne _ _ _ h1]
  have k2 : ∀ j, ¬ j = 37 → ¬ j = 38 → ¬ j = 39 → ¬ j = 51 → lvR (mu (lvC (mu M 37 1 0) 0 l) 39 22 0) 0 l j = M j := fun j h1 h2 h3 h4 => by rw [lvR_ne l h3 h4, mu_ne _ _ _ h3, k1 j h1 h2]
  have k37 : lvR (mu (lvC (mu M 37 1 0) 0 l) 39 22 0) 0 l 37 1 = nI l.length := by
    rw [lvR_ne l (by decide) (by decide), mu_ne _ _ _ (by decide), lvC_37 l _ 0 rfl, Nat.zero_add]
  have k22 : lvR (mu (lvC (mu M 37 1 0) 0 l) 39 22 0) 0 l 39 22 = nI l.length := by
    rw [lvR_22 l _ 0 (by rw [mu_at, pk_us]; rfl), Nat.zero_add]
  have k38 : lvR (mu (lvC (mu M 37 1 0) 0 l) 39 22 0) 0 l 38 = wr (M 38) 0 l := by
    rw [lvR_ne l (by decide) (by decide), mu_ne _ _ _ (by decide), lvC_38]; rfl
  have k51 : lvR (mu (lvC (mu M 37 1 0) 0 l) 39 22 0) 0 l 51 = wr (M 51) 0 l := by
    rw [lvR_51, mu_ne _ _ _ (by decide), k1 51 (by decide) (by decide)]
  have k39 : ∀ i, ¬ i = 22 → lvR (mu (lvC (mu M 37 1 0) 0 l) 39 22 0) 0 l 39 i = M 39 i := fun i h => by
    rw [lvR_39 l h, mu_at, pk_un h, k1 39 (by decide) (by decide)]
  refine op_run hc ⟨k1 63 (by decide) (by decide), k1 64 (by decide) (by decide)⟩ hr ?_ ⟨k2 63 (by decide) (by decide) (by decide) (by decide), k2 64 (by decide) (by decide) (by decide) (by decide)⟩
  generalize lvR (mu (lvC (mu M 37 1 0) 0 l) 39 22 0) 0 l = M2 at k2 k37 k22 k38 k51 k39
  have q := fun j => k2 j
  unfold Inv
  rw [k37, k22, k38, k51, k39 3 (by decide), k39 13 (by decide), k39 14 (by decide), k39 5 (by decide), k39 9 (by decide)]
  rw [q 0 (by decide) (by decide) (by decide) (by decide), q 2 (by decide) (by decide) (by decide) (by decide), q 3 (by decide) (by decide) (by decide) (by decide), q 4 (by decide) (by decide) (by decide) (by decide), q 40 (by decide) (by decide) (by decide) (by decide), q 41 (by decide) (by decide) (by decide) (by decide), q 42 (by decide) (by decide) (by decide) (by decide)]
  rw [q 5 (by decide) (by decide) (by decide) (by decide), q 6 (by decide) (by decide) (by decide) (by decide), q 49 (by decide) (by decide) (by decide) (by decide), q 7 (by decide) (by decide) (by decide) (by decide), q 8 (by decide) (by decide) (by decide) (by decide), q 9 (by decide) (by decide) (by decide) (by decide), q 10 (by decide) (by decide) (by decide) (by decide), q 11 (by decide) (by decide) (by decide) (by decide), q 12 (by decide) (by decide) (by decide) (by decide), q 44 (by decide) (by decide) (by decide) (by decide)]
  rw [q 32 (by decide) (by decide) (by decide) (by decide), q 33 (by decide) (by decide) (by decide) (by decide), q 46 (by decide) (by decide) (by decide) (by decide), q 47 (by decide) (by decide) (by decide) (by decide), q 48 (by decide) (by decide) (by decide) (by decide), q 60 (by decide) (by decide) (by decide) (by decide), q 61 (by decide) (by decide) (by decide) (by decide), q 62 (by decide) (by decide) (by decide) (by decide)]
  rw [q 20 (by decide) (by decide) (by decide) (by decide), q 21 (by decide) (by decide) (by decide) (by decide), q 22 (by decide) (by decide) (by decide) (by decide), q 23 (by decide) (by decide) (by decide) (by decide), q 24 (by decide) (by decide) (by decide) (by decide), q 25 (by decide) (by decide) (by decide) (by decide), q 26 (by decide) (by decide) (by decide) (by decide), q 27 (by decide) (by decide) (by decide) (by decide), q 28 (by decide) (by decide) (by decide) (by decide), q 29 (by decide) (by decide) (by decide) (by decide), q 30 (by decide) (by decide) (by decide) (by decide), q 31 (by decide) (by decide) (by decide) (by decide)]
  refine ⟨hI.1, hI.2.1, hI.2.2.1, hI.2.2.2.1, hI.2.2.2.2.1, hI.2.2.2.2.2.1, ⟨rfl, ?_, fun i hi => ?_⟩, hI.2.2.2.2.2.2.2⟩
  · rw [nI_toInt (by omega)]; omega
  · rw [nI_toInt (by omega)] at hi
    exact wr_eq l _ _ 0 i (by omega) (by omega)
theorem ask_cls (hI : Inv M) {c : Nat} (hc : (c : Int) < (M 44 2).toInt) (hc6 : c < 6) {κ : Nat} (hκ : κ ≤ 5) (ek : M 9 c = nI κ) {w : Int32} (hw : w = 0 ∨ w = 1) {b : Int32} (eb : (if w = 0 then M 61 κ else M 62 κ) = b) {l : List Int32} {r : Int32} (hl : l.length ≤ 16) (hb : Bd M c 6 b l r) : Run (fun Φ => S_ask M (nI c) w Φ) r (lvC (mu M 37 1 0) 0 l) := by
  intro Φ h
  have e2 := hI.bike.1.1.2.1
  have c2 := hI.bike.cb.2.1
  have hs : Same (mu M 37 1 0) M := ⟨rfl, rfl, rfl, rfl, rfl⟩
  refine v_hasCog 7 M _ _ (sk ?_ (v_within M _ _ _ _ (sk ?_ (fun M5 e5 => ?_))))
  · unfold wi
    rw [e2, sub1 c2.1, nI_toInt (by omega), if_pos (by rw [show (0 : Int32).toInt = 0 by decide]; omega)]; decide
  · rcases hw with rfl | rfl <;> decide
  · rw [e5]
    rcases hw with rfl | rfl
    · exact asked_0 hs hc6 hκ ek eb (hb (mu M 37 1 0) 0 0 _ hs rfl (by omega) (by omega) h)
    · exact asked_1 hs hc6 hκ ek eb (hb (mu M 37 1 0) 0 0 _ hs rfl (by omega) (by omega) h)
theorem ask_ref {v : Nat → Int32} {N : Mm} (hv : N 44 = v) {c : Nat} (c2 : 0 ≤ (v 2).toInt) (hc : (c : Int) < (v 2).toInt) (hc6 : c < 6) {w : Int32} (hw : w = 0 ∨ w = 1) {l : List Int32} {r : Int32} (hl : l.length ≤ 16) (h0 : w = 0 → Rb v (fun M Φ => S_R_sizeOf M (nI c) Φ) l r) (h1 : w = 1 → Rb v (fun M Φ => S_R_markOf M (nI c) Φ) l r) : Run (fun Φ => S_R_ask N (nI c) w Φ) r (lvR (mu N 39 22 0) 0 l) := by
  intro Φ h
  refine vr_isCog N _ _ (sk ?_ (v_in N _ _ _ _ (sk ?_ (fun M5 e5 => ?_))))
  · unfold wi
    rw [hv, sub1 c2, nI_toInt (by omega), if_pos (by rw [show (0 : Int32).toInt = 0 by decide]; omega)]; decide
  · rcases hw with rfl | rfl <;> decide
  · rw [e5]
    rcases hw with rfl | rfl
    · exact ht rfl (h0 rfl (mu N 39 22 0) 0 _ hv (by rw [mu_at, pk_us]; rfl) (by omega) h)
    · exact sk (by decide) (h1 rfl (mu N 39 22 0) 0 _ hv (by rw [mu_at, pk_us]; rfl) (by omega) h)
theorem op_ask (hI : Inv M) : Op_ask Inv M := by
  intro a x
  have hB := hI.bike
  obtain ⟨c1, c2, c3⟩ := hB.cb
  obtain ⟨⟨e1, e2, e3, e4, e5, e6, e7, e8⟩, hr, hcc, hs⟩ := hB.1
  by_cases hw : wi a 0 (M 44 2 - 1) = 0
  · refine op_run (r := -1000001) (M1 := M) (M2 := M) (fun Φ h => ?_) ⟨rfl, rfl⟩ (fun Φ h => ?_) hI ⟨rfl, rfl⟩
    · exact v_hasCog 7 M a _ ⟨fun _ => h, fun n => absurd (by rw [e2]; exact hw) n⟩
    · exact vr_isCog M _ _ ⟨fun _ => h, fun n => absurd hw n⟩
  by_cases hx : wi x 0 1 = 0
  · refine op_run (r := -1000001) (M1 := M) (M2 := M) (fun Φ h => ?_) ⟨rfl, rfl⟩ (fun Φ h => ?_) hI ⟨rfl, rfl⟩
    · exact v_hasCog 7 M a _ ⟨fun n => absurd n (by rw [e2]; exact hw), fun _ => v_within M _ _ _ _ ⟨fun _ => h, fun n => absurd hx n⟩⟩
    · exact vr_isCog M _ _ ⟨fun n => absurd n hw, fun _ => v_in M _ _ _ _ ⟨fun _ => h, fun n => absurd hx n⟩⟩
  obtain ⟨c, rfl, hc⟩ := wi_nI c2.1 hw
  have hc6 : c < 6 := by omega
  have hV := hB.good (Or.inl (by omega))
  have hk := (hV.2.2.1 c hc).1
  obtain ⟨κ, eκ, hκ⟩ := ix_nI (b := M 44 (11 + c)) (by omega)
  have hκ1 : 1 ≤ κ := by omega
  have hκ5 : κ ≤ 5 := by omega
  obtain ⟨q1, q2, q3⟩ := hcc c hc
  have ek : M 9 c = nI κ := q1.trans eκ
  obtain ⟨t1, t2, t3⟩ := hI.tab
  have fin : ∀ (l : List Int32) (r : Int32) (w b : Int32), (w = 0 ∨ w = 1) → l.length ≤ 16 → (if w = 0 then M 61 κ else M 62 κ) = b → Bd M c 6 b l r → (w = 0 → Rb (M 44) (fun M Φ => S_R_sizeOf M (nI c) Φ) l r) → (w = 1 → Rb (M 44) (fun M Φ => S_R_markOf M (nI c) Φ) l r) → Op Inv M (fun Φ => S_ask M (nI c) w Φ) (fun M1 Ψ => S_R_ask M1 (nI c) w Ψ) := by
    intro l r w b hw hl eb hb h0 h1
    refine ask_fin hI hl (ask_cls hI hc hc6 hκ5 ek hw eb hl hb) (ask_ref (v := M 44) ?_ c2.1 hc hc6 hw hl h0 h1)
    rw [lvC_ne l (by decide) (by decide), mu_ne _ _ _ (by decide)]
  have no {p : Prop} : (0 : Int32) = 1 → p := fun z => absurd z (by decide)
  have no' {p : Prop} : (1 : Int32) = 0 → p := fun z => absurd z (by decide)
  rcases two hx with rfl | rfl
  · match κ, hκ1, hκ5 with
    | 1, _, _ =>
      refine fin [11, 10, 21, 20] (M 10 c + (nI c + M 11 c)) 0 11 (Or.inl rfl) (by decide) (by rw [t2]; rfl) (bd11 hc6 (by decide) ek (by rw [t3]; rfl) (bd21 hc6 3)) (fun _ => ?_) no
      rw [q2, q3]; exact rbSize1 hc6 eκ
    | 2, _, _ =>
      refine fin [12, 11, 10, 24, 21, 20] (-(M 10 c + 2 * (nI c + M 11 c))) 0 12 (Or.inl rfl) (by decide) (by rw [t2]; rfl) (bd12 (bd11 hc6 (by decide) ek (by rw [t3]; rfl) (bd24 hc6 1))) (fun _ => ?_) no
      rw [q2, q3]; exact rbSize2 hc6 eκ
    | 3, _, _ =>
      refine fin [11, 10, 22, 21, 20] (M 10 c + (nI c + M 11 c - 1000)) 0 11 (Or.inl rfl) (by decide) (by rw [t2]; rfl) (bd11 hc6 (by decide) ek (by rw [t3]; rfl) (bd22 hc6 2)) (fun _ => ?_) no
      rw [q2, q3]; exact rbSize3 hc6 eκ
    | 4, _, _ =>
      refine fin [13, 10] (M 10 c - 100) 0 13 (Or.inl rfl) (by decide) (by rw [t2]; rfl) (bd13 hc6 4) (fun _ => ?_) no
      rw [q2]; exact rbSize4 hc6 eκ
    | 5, _, _ =>
      refine fin [14, 13, 10] (2 * (M 10 c - 100)) 0 14 (Or.inl rfl) (by decide) (by rw [t2]; rfl) (bd14 hc6 3) (fun _ => ?_) no
      rw [q2]; exact rbSize5 hc6 eκ
  · match κ, hκ1, hκ5 with
    | 1, _, _ =>
      refine fin [21, 20] (nI c + M 11 c) 1 21 (Or.inr rfl) (by decide) (by rw [t3]; rfl) (bd21 hc6 4) no' (fun _ => ?_)
      rw [q3]; exact rbM hc6 (κ := 1) (by decide) eκ (rbMark hc6 (κ := 1) (by decide) (by decide) eκ)
    | 2, _, _ =>
      refine fin [24, 21, 20] (2 * (nI c + M 11 c)) 1 24 (Or.inr rfl) (by decide) (by rw [t3]; rfl) (bd24 hc6 3) no' (fun _ => ?_)
      rw [q3]; exact rbM hc6 (κ := 2) (by decide) eκ (rbMark hc6 (κ := 2) (by decide) (by decide) eκ)
    | 3, _, _ =>
      refine fin [22, 21, 20] (nI c + M 11 c - 1000) 1 22 (Or.inr rfl) (by decide) (by rw [t3]; rfl) (bd22 hc6 3) no' (fun _ => ?_)
      rw [q3]; exact rbM hc6 (κ := 3) (by decide) eκ (rbMark hc6 (κ := 3) (by decide) (by decide) eκ)
    | 4, _, _ =>
      refine fin [23, 20, 13, 10] (nI c - (M 10 c - 100)) 1 23 (Or.inr rfl) (by decide) (by rw [t3]; rfl) (bd23 hc6 (by decide) ek (by rw [t2]; rfl) (bd13 hc6 3)) no' (fun _ => ?_)
      rw [q2]; exact rbM4 hc6 (κ := 4) (by decide) (by decide) eκ (rbSize4 hc6 eκ)
    | 5, _, _ =>
      refine fin [23, 20, 14, 13, 10] (nI c - 2 * (M 10 c - 100)) 1 23 (Or.inr rfl) (by decide) (by rw [t3]; rfl) (bd23 hc6 (by decide) ek (by rw [t2]; rfl) (bd14 hc6 2)) no' (fun _ => ?_)
      rw [q2]; exact rbM4 hc6 (κ := 5) (by decide) (by decide) eκ (rbSize5 hc6 eκ)
end Ask
