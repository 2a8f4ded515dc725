/-! places that are moved: row, copy -/
def RunV (S : (Mm → Prop) → Prop) (M1 : Mm) : Prop := ∀ Φ : Mm → Prop, Φ M1 → S Φ
theorem ms_ms (M : Mm) (k : Nat) (f g : Nat → Int32) : ms (ms M k f) k g = ms M k g := by
  funext j
  unfold ms
  by_cases h : j = k
  · rw [if_pos h, if_pos h]
  · rw [if_neg h, if_neg h, if_neg h]
theorem ms_at (M : Mm) (k : Nat) (f : Nat → Int32) : ms M k f k = f := by unfold ms; rw [if_pos rfl]
theorem ms_self (M : Mm) (k : Nat) : ms M k (M k) = M := by
  funext j
  unfold ms
  by_cases h : j = k
  · rw [if_pos h, h]
  · rw [if_neg h]
theorem mu_ms (M : Mm) (k i : Nat) (f : Nat → Int32) (x : Int32) : mu (ms M k f) k i x = ms M k (upd f i x) := by
  unfold mu
  rw [ms_ms, ms_at]
theorem cpy_0 (f g : Nat → Int32) (sp dp : Nat) : va_cpy f g sp dp 0 = g := by
  funext z
  unfold va_cpy
  rw [if_neg (by omega)]
theorem cpy_s (f g : Nat → Int32) (sp dp j : Nat) : upd (va_cpy f g sp dp j) (dp + j) (f (sp + j)) = va_cpy f g sp dp (j + 1) := by
  funext z
  unfold upd va_cpy
  by_cases h : z = dp + j
  · rw [if_pos h, if_pos (by omega), h, show sp + (dp + j - dp) = sp + j by omega]
  · rw [if_neg h]
    by_cases h2 : dp ≤ z ∧ z < dp + j
    · rw [if_pos h2, if_pos (by omega)]
    · rw [if_neg h2, if_neg (by omega)]
theorem cpy_in (f g : Nat → Int32) {sp dp n z : Nat} (h1 : dp ≤ z) (h2 : z < dp + n) : va_cpy f g sp dp n z = f (sp + (z - dp)) := by unfold va_cpy; rw [if_pos ⟨h1, h2⟩]
theorem cpy_out (f g : Nat → Int32) {sp dp n z : Nat} (h : ¬ (dp ≤ z ∧ z < dp + n)) : va_cpy f g sp dp n z = g z := by unfold va_cpy; rw [if_neg h]
section Move
variable {M : Mm}
theorem v_make {i n : Nat} (hi : i < 8) (hn : n ≤ 40) (l : Int32) : RunV (S_Rows_make M (nI i) l (nI n)) (ms (mu (mu M 2 i l) 3 i (nI n)) 4 (va_cpy (fun _ => 0) (M 4) 0 (40 * i) n)) := by
  intro Φ h
  unfold S_Rows_make
  rw [nI_clamp (by omega)]
  refine ⟨vp_in_nI hi (by decide), fun M1 e1 => ⟨vp_in_nI hi (by decide), fun M2 e2 => ?_⟩⟩
  rw [e2, e1]
  refine lp_ex (fun q (a : Int32 × Int32 × Int32 × Mm) => ∃ j, j + q = n ∧ a = (nI i, nI n, nI j, ms (mu (mu M 2 i l) 3 i (nI n)) 4 (va_cpy (fun _ => 0) (M 4) 0 (40 * i) j))) ?_ ?_ (i := n) ⟨0, by omega, ?_⟩
  · rintro a ⟨j, hj, rfl⟩ rec
    obtain rfl : j = n := by omega
    exact ⟨fun _ => h, fun z => absurd (by rw [tI_le]; omega) z⟩
  · rintro q a ⟨j, hj, rfl⟩ rec hrec
    refine ⟨fun z => absurd z (nle n (by omega) (by omega)), fun _ => ?_⟩
    unfold S_Rows_placeOf
    rw [(place_nI i j).1]
    refine ⟨vp_in_nI (by omega) (by decide), fun M6 e => hrec _ ⟨j + 1, by omega, ?_⟩⟩
    rw [e, nI_clamp (by omega), nI_inc, mu_ms]
    have := cpy_s (fun _ => 0) (M 4) 0 (40 * i) j
    rw [← this]
  · rw [cpy_0]
    show _ = (_, _, _, ms (mu (mu M 2 i l) 3 i (nI n)) 4 ((mu (mu M 2 i l) 3 i (nI n)) 4))
    rw [ms_self]; rfl
theorem vr_rowLoop {i : Nat} (hi : i < 8) (n : Int32) : Run (fun Φ => ∃ q, lp (D_R_row_52 Φ) q (nI i, n, 0, M)) n (mu (ms M 42 (va_cpy (fun _ => 0) (M 42) 0 (40 * i) 40)) 39 3 0) := by
  intro Φ h
  refine lp_ex (fun q (a : Int32 × Int32 × Int32 × Mm) => ∃ j, j + q = 40 ∧ a = (nI i, n, nI j, ms M 42 (va_cpy (fun _ => 0) (M 42) 0 (40 * i) j))) ?_ ?_ (i := 40) ⟨0, by omega, ?_⟩
  · rintro a ⟨j, hj, rfl⟩ rec
    obtain rfl : j = 40 := by omega
    exact ⟨fun _ => fun M1 e => by rw [e]; exact h, fun z => absurd (by decide) z⟩
  · rintro q a ⟨j, hj, rfl⟩ rec hrec
    refine ⟨fun z => absurd z (nle 40 (by omega) (by omega)), fun _ => ?_⟩
    rw [(place_nI i j).2]
    refine ⟨vp_in_nI (by omega) (by decide), fun M6 e => hrec _ ⟨j + 1, by omega, ?_⟩⟩
    rw [e, nI_clamp (by omega), nI_inc, mu_ms]
    have := cpy_s (fun _ => 0) (M 42) 0 (40 * i) j
    rw [← this]
  · rw [cpy_0, ms_self]; rfl
theorem op_row (hI : Inv M) : Op_row Inv M := by
  intro a l x
  have e0 : (0 : Int32).toInt = 0 := by decide
  have e2 : (2 : Int32).toInt = 2 := by decide
  have e40 : (40 : Int32).toInt = 40 := by decide
  by_cases hw : wi a 0 7 = 0
  · refine op_run (r := -1000001) (M1 := M) (M2 := M) (fun Φ h => ?_) ⟨rfl, rfl⟩ (fun Φ h => ?_) hI ⟨rfl, rfl⟩
    · exact v_isRow M a _ ⟨fun _ => h, fun n => absurd hw n⟩
    · exact vr_isRow M a _ ⟨fun _ => h, fun n => absurd hw n⟩
  by_cases hl : wi l 0 2 = 0
  · refine op_run (r := -1000001) (M1 := M) (M2 := M) (fun Φ h => ?_) ⟨rfl, rfl⟩ (fun Φ h => ?_) hI ⟨rfl, rfl⟩
    · exact v_isRow M a _ ⟨fun n => absurd n hw, fun _ => v_within M l _ _ _ ⟨fun _ => h, fun n => absurd hl n⟩⟩
    · exact vr_isRow M a _ ⟨fun n => absurd n hw, fun _ => v_in M l _ _ _ ⟨fun _ => h, fun n => absurd hl n⟩⟩
  by_cases hx : x ≤ 40
  · by_cases hx0 : 0 ≤ x
    · obtain ⟨i, rfl, hi⟩ := row_nI hw
      have hlb := wi_1 hl
      rw [e0, e2] at hlb
      rw [tI_le, e40] at hx
      rw [tI_le, e0] at hx0
      obtain ⟨n, rfl, en⟩ := ix_nI hx0
      have hn : n ≤ 40 := by omega
      refine op_run (r := nI n) (M1 := mu (ms (mu (mu M 2 i l) 3 i (nI n)) 4 (va_cpy (fun _ => 0) (M 4) 0 (40 * i) n)) 0 8 0) (M2 := mu (ms (mu (mu (mu (ms (mu (mu M 2 i l) 3 i (nI n)) 4 (va_cpy (fun _ => 0) (M 4) 0 (40 * i) n)) 0 8 0) 40 i l) 41 i (nI n)) 42 (va_cpy (fun _ => 0) (M 42) 0 (40 * i) 40)) 39 3 0) (fun Φ h => ?_) ⟨rfl, rfl⟩ (fun Φ h => ?_) ?_ ⟨rfl, rfl⟩
      · refine v_isRow M _ _ ⟨fun n => absurd n hw, fun _ => v_within M l _ _ _ ⟨fun n => absurd n hl, fun _ => ⟨fun _ => ⟨fun _ => ?_, fun z => absurd (by rw [tI_le, e0]; omega) z⟩, fun z => absurd (by rw [tI_le, e40]; omega) z⟩⟩⟩
        exact v_make hi hn l _ (fun M1 e => by rw [e]; exact h)
      · refine vr_isRow _ _ _ ⟨fun n => absurd n hw, fun _ => v_in _ l _ _ _ ⟨fun n => absurd n hl, fun _ => ⟨fun _ => ⟨fun _ => ?_, fun z => absurd (by rw [tI_le, e0]; omega) z⟩, fun z => absurd (by rw [tI_le, e40]; omega) z⟩⟩⟩
        rw [nI_clamp (by omega)]
        refine ⟨vp_in_nI hi (by decide), fun M7 e7 => ⟨vp_in_nI hi (by decide), fun M8 e8 => ?_⟩⟩
        rw [e8, e7]
        exact vr_rowLoop hi _ _ h
      · refine ⟨⟨rfl, fun r hr => ?_⟩, hI.2⟩
        obtain ⟨p1, p2, p3, p4, p5⟩ := hI.1.2 r hr
        show upd (M 2) i l r = upd (M 40) i l r ∧ upd (M 3) i (nI n) r = upd (M 41) i (nI n) r ∧ (-1 ≤ (upd (M 40) i l r).toInt ∧ (upd (M 40) i l r).toInt ≤ 2) ∧ (0 ≤ (upd (M 41) i (nI n) r).toInt ∧ (upd (M 41) i (nI n) r).toInt ≤ 40) ∧ ∀ k : Nat, (k : Int) < (upd (M 41) i (nI n) r).toInt → va_cpy (fun _ => 0) (M 4) 0 (40 * i) n (40 * r + k) = va_cpy (fun _ => 0) (M 42) 0 (40 * i) 40 (40 * r + k)
        by_cases h : r = i
        · subst h
          simp only [upd, if_true]
          refine ⟨trivial, trivial, by omega, by omega, fun k hk => ?_⟩
          rw [cpy_in _ _ (by omega) (by omega), cpy_in _ _ (by omega) (by omega)]
        · simp only [upd, h, if_false]
          refine ⟨p1, p2, p3, p4, fun k hk => ?_⟩
          rw [cpy_out _ _ (by omega), cpy_out _ _ (by omega)]
          exact p5 k hk
    · refine op_run (r := (-1000010) - 4) (M1 := mu M 0 8 4) (M2 := mu (mu M 0 8 4) 39 3 4) (fun Φ h => ?_) ⟨rfl, rfl⟩ (fun Φ h => ?_) (hI.find 4) ⟨rfl, rfl⟩
      · refine v_isRow M _ _ ⟨fun n => absurd n hw, fun _ => v_within M l _ _ _ ⟨fun n => absurd n hl, fun _ => ⟨fun _ => ⟨fun z => absurd z hx0, fun _ => fun M1 e => by rw [e]; exact h⟩, fun z => absurd hx z⟩⟩⟩
      · refine vr_isRow _ _ _ ⟨fun n => absurd n hw, fun _ => v_in _ l _ _ _ ⟨fun n => absurd n hl, fun _ => ⟨fun _ => ⟨fun z => absurd z hx0, fun _ => fun M1 e => by rw [e]; exact h⟩, fun z => absurd hx z⟩⟩⟩
  · refine op_run (r := -1000001) (M1 := M) (M2 := M) (fun Φ h => ?_) ⟨rfl, rfl⟩ (fun Φ h => ?_) hI ⟨rfl, rfl⟩
    · exact v_isRow M a _ ⟨fun n => absurd n hw, fun _ => v_within M l _ _ _ ⟨fun n => absurd n hl, fun _ => ⟨fun z => absurd z hx, fun _ => h⟩⟩⟩
    · exact vr_isRow M a _ ⟨fun n => absurd n hw, fun _ => v_in M l _ _ _ ⟨fun n => absurd n hl, fun _ => ⟨fun z => absurd z hx, fun _ => h⟩⟩⟩
theorem v_move {i k j m n : Nat} (hi : i < 8) (hj : j < 8) (h1 : k + n ≤ 40) (h2 : m + n ≤ 40) : RunV (S_Rows_move M (nI i) (nI k) (nI j) (nI m) (nI n)) (ms M 4 (va_cpy (M 4) (M 4) (40 * i + k) (40 * j + m) n)) := by
  intro Φ h
  unfold S_Rows_move S_Rows_placeOf
  rw [(place_nI i k).1, (place_nI j m).1]
  have e0 : (0 : Int32).toInt = 0 := by decide
  have g1 := nI_toInt (n := 40 * i + k) (by omega)
  have g2 := nI_toInt (n := 40 * j + m) (by omega)
  have g3 := nI_toInt (n := n) (by omega)
  refine ⟨⟨by rw [tI_lt]; omega, by rw [tI_lt]; omega, by rw [tI_lt]; omega, ?_, ?_⟩, fun M3 e => ?_⟩
  · rw [nI_clamp (by omega), nI_clamp (by omega)]; omega
  · rw [nI_clamp (by omega), nI_clamp (by omega)]; omega
  · rw [e, nI_clamp (by omega), nI_clamp (by omega), nI_clamp (by omega)]
    exact h
theorem place3 (r k j : Nat) : (40 * nI r + nI k) + nI j = nI (40 * r + k + j) := by rw [(place_nI r k).2, nI_add]
theorem vr_copyLoop {i k j m n : Nat} (hi : i < 8) (hj : j < 8) (h1 : k + n ≤ 40) (h2 : m + n ≤ 40) : Run (fun Φ => ∃ q, lp (D_R_copy_94 Φ) q (nI i, nI k, nI j, nI m, nI n, 0, M)) (nI n) (mu (ms (ms M 43 (va_cpy (M 42) (M 43) (40 * i + k) 0 n)) 42 (va_cpy (va_cpy (M 42) (M 43) (40 * i + k) 0 n) (M 42) 0 (40 * j + m) n)) 39 3 0) := by
  intro Φ h
  refine lp_ex (fun q (a : Int32 × Int32 × Int32 × Int32 × Int32 × Int32 × Mm) => ∃ z, z + q = n ∧ a = (nI i, nI k, nI j, nI m, nI n, nI z, ms M 43 (va_cpy (M 42) (M 43) (40 * i + k) 0 z))) ?_ ?_ (i := n) ⟨0, by omega, ?_⟩
  · rintro a ⟨z, hz, rfl⟩ rec
    obtain rfl : z = n := by omega
    refine ⟨fun _ => ?_, fun z => absurd (by rw [tI_le]; omega) z⟩
    refine lp_ex (fun q (a : Int32 × Int32 × Int32 × Int32 × Mm) => ∃ y, y + q = z ∧ a = (nI j, nI m, nI z, nI y, ms (ms M 43 (va_cpy (M 42) (M 43) (40 * i + k) 0 z)) 42 (va_cpy (va_cpy (M 42) (M 43) (40 * i + k) 0 z) (M 42) 0 (40 * j + m) y))) ?_ ?_ (i := z) ⟨0, by omega, ?_⟩
    · rintro a ⟨y, hy, rfl⟩ rec
      obtain rfl : y = z := by omega
      exact ⟨fun _ => fun M1 e => by rw [e]; exact h, fun z => absurd (by rw [tI_le]; omega) z⟩
    · rintro q a ⟨y, hy, rfl⟩ rec hrec
      refine ⟨fun w => absurd w (nle z (by omega) (by omega)), fun _ => ?_⟩
      rw [place3]
      refine ⟨vp_in_nI (by omega) (by decide), vp_in_nI (by omega) (by decide), fun M6 e => hrec _ ⟨y + 1, by omega, ?_⟩⟩
      rw [e, nI_clamp (by omega), nI_clamp (by omega), nI_inc, mu_ms]
      rw [← cpy_s _ _ _ _ y, Nat.zero_add]
      rfl
    · rw [cpy_0]
      show _ = (_, _, _, _, ms (ms M 43 (va_cpy (M 42) (M 43) (40 * i + k) 0 z)) 42 ((ms M 43 (va_cpy (M 42) (M 43) (40 * i + k) 0 z)) 42))
      rw [ms_self]; rfl
  · rintro q a ⟨z, hz, rfl⟩ rec hrec
    refine ⟨fun w => absurd w (nle n (by omega) (by omega)), fun _ => ?_⟩
    rw [place3]
    refine ⟨vp_in_nI (by omega) (by decide), vp_in_nI (by omega) (by decide), fun M6 e => hrec _ ⟨z + 1, by omega, ?_⟩⟩
    rw [e, nI_clamp (by omega), nI_clamp (by omega), nI_inc, mu_ms]
    rw [← cpy_s _ _ _ _ z, Nat.zero_add]
    rfl
  · rw [cpy_0, ms_self]; rfl
theorem op_copy (hI : Inv M) : Op_copy Inv M := by
  intro a i b j n
  have e0 : (0 : Int32).toInt = 0 := by decide
  by_cases hw : wi a 0 7 = 0
  · refine op_run (r := -1000001) (M1 := M) (M2 := M) (fun Φ h => ?_) ⟨rfl, rfl⟩ (fun Φ h => ?_) hI ⟨rfl, rfl⟩
    · exact v_isRow M a _ ⟨fun _ => h, fun n => absurd hw n⟩
    · exact vr_isRow M a _ ⟨fun _ => h, fun n => absurd hw n⟩
  by_cases hl : wi b 0 7 = 0
  · refine op_run (r := -1000001) (M1 := M) (M2 := M) (fun Φ h => ?_) ⟨rfl, rfl⟩ (fun Φ h => ?_) hI ⟨rfl, rfl⟩
    · exact v_isRow M a _ ⟨fun n => absurd n hw, fun _ => v_isRow M b _ ⟨fun _ => h, fun n => absurd hl n⟩⟩
    · exact vr_isRow M a _ ⟨fun n => absurd n hw, fun _ => vr_isRow M b _ ⟨fun _ => h, fun n => absurd hl n⟩⟩
  obtain ⟨a, rfl, ha⟩ := row_nI hw
  obtain ⟨b, rfl, hb⟩ := row_nI hl
  obtain ⟨p1, p2, p3, p4, p5⟩ := hI.1.2 a ha
  obtain ⟨q1, q2, q3, q4, q5⟩ := hI.1.2 b hb
  obtain ⟨na1, na2⟩ := lane_neg p3.1
  obtain ⟨nb1, nb2⟩ := lane_neg q3.1
  by_cases hm : M 40 a = -1
  · refine op_run (r := (-1000010) - 1) (M1 := mu M 0 8 1) (M2 := mu (mu M 0 8 1) 39 3 1) (fun Φ h => ?_) ⟨rfl, rfl⟩ (fun Φ h => ?_) (hI.find 1) ⟨rfl, rfl⟩
    · refine v_isRow M _ _ ⟨fun n => absurd n hw, fun _ => v_isRow M _ _ ⟨fun n => absurd n hl, fun _ => v_isMissing ha _ ⟨fun z => ?_, fun _ => fun M1 e => by rw [e]; exact h⟩⟩⟩
      unfold msv at z; rw [p1, if_pos hm] at z; exact absurd z (by decide)
    · refine vr_isRow _ _ _ ⟨fun n => absurd n hw, fun _ => vr_isRow _ _ _ ⟨fun n => absurd n hl, fun _ => ?_⟩⟩
      rw [nI_clamp (by omega)]
      exact ⟨vp_in_nI ha (by decide), fun _ => fun M1 e => by rw [e]; exact h, fun z => absurd (na2.mp hm) z⟩
  have hma : msv (M 2) a = 0 := by unfold msv; rw [p1, if_neg hm]
  by_cases hm2 : M 40 b = -1
  · refine op_run (r := (-1000010) - 1) (M1 := mu M 0 8 1) (M2 := mu (mu M 0 8 1) 39 3 1) (fun Φ h => ?_) ⟨rfl, rfl⟩ (fun Φ h => ?_) (hI.find 1) ⟨rfl, rfl⟩
    · refine v_isRow M _ _ ⟨fun n => absurd n hw, fun _ => v_isRow M _ _ ⟨fun n => absurd n hl, fun _ => v_isMissing ha _ ⟨fun _ => v_isMissing hb _ ⟨fun z => ?_, fun _ => fun M1 e => by rw [e]; exact h⟩, fun z => absurd hma z⟩⟩⟩
      unfold msv at z; rw [q1, if_pos hm2] at z; exact absurd z (by decide)
    · refine vr_isRow _ _ _ ⟨fun n => absurd n hw, fun _ => vr_isRow _ _ _ ⟨fun n => absurd n hl, fun _ => ?_⟩⟩
      rw [nI_clamp (by omega), nI_clamp (by omega)]
      exact ⟨vp_in_nI ha (by decide), fun z => absurd (na2.mpr z) hm, fun _ => ⟨vp_in_nI hb (by decide), fun z => absurd z (nb1.mp hm2), fun _ => fun M1 e => by rw [e]; exact h⟩⟩
  have hmb : msv (M 2) b = 0 := by unfold msv; rw [q1, if_neg hm2]
  have h0b : 0 ≤ M 40 b := Classical.byContradiction fun z => hm2 (nb1.mpr z)
  by_cases hst : ¬ M 40 a = M 40 b
  · refine op_run (r := (-1000010) - 5) (M1 := mu M 0 8 5) (M2 := mu (mu M 0 8 5) 39 3 5) (fun Φ h => ?_) ⟨rfl, rfl⟩ (fun Φ h => ?_) (hI.find 5) ⟨rfl, rfl⟩
    · refine v_isRow M _ _ ⟨fun n => absurd n hw, fun _ => v_isRow M _ _ ⟨fun n => absurd n hl, fun _ => v_isMissing ha _ ⟨fun _ => v_isMissing hb _ ⟨fun _ => ?_, fun z => absurd hmb z⟩, fun z => absurd hma z⟩⟩⟩
      rw [nI_clamp (by omega), nI_clamp (by omega), p1, q1]
      exact ⟨vp_in_nI ha (by decide), vp_in_nI hb (by decide), fun z => absurd z hst, fun _ => fun M1 e => by rw [e]; exact h⟩
    · refine vr_isRow _ _ _ ⟨fun n => absurd n hw, fun _ => vr_isRow _ _ _ ⟨fun n => absurd n hl, fun _ => ?_⟩⟩
      rw [nI_clamp (by omega), nI_clamp (by omega)]
      exact ⟨vp_in_nI ha (by decide), fun z => absurd (na2.mpr z) hm, fun _ => ⟨vp_in_nI hb (by decide), fun _ => ⟨vp_in_nI ha (by decide), vp_in_nI hb (by decide), fun z => absurd z hst, fun _ => fun M1 e => by rw [e]; exact h⟩, fun z => absurd h0b z⟩⟩
  have hst := Classical.not_not.mp hst
  by_cases hpl : rcv (M 41 a) i n = 0
  · refine op_run (r := (-1000010) - 2) (M1 := mu M 0 8 2) (M2 := mu (mu M 0 8 2) 39 3 2) (fun Φ h => ?_) ⟨rfl, rfl⟩ (fun Φ h => ?_) (hI.find 2) ⟨rfl, rfl⟩
    · refine v_isRow M _ _ ⟨fun n => absurd n hw, fun _ => v_isRow M _ _ ⟨fun n => absurd n hl, fun _ => v_isMissing ha _ ⟨fun _ => v_isMissing hb _ ⟨fun _ => ?_, fun z => absurd hmb z⟩, fun z => absurd hma z⟩⟩⟩
      rw [nI_clamp (by omega), nI_clamp (by omega), p1, q1]
      refine ⟨vp_in_nI ha (by decide), vp_in_nI hb (by decide), fun _ => v_reaches ha (by rw [p2]; exact p4) _ _ _ ⟨fun _ => fun M1 e => by rw [e]; exact h, fun z => absurd (by rw [p2]; exact hpl) z⟩, fun z => absurd hst z⟩
    · refine vr_isRow _ _ _ ⟨fun n => absurd n hw, fun _ => vr_isRow _ _ _ ⟨fun n => absurd n hl, fun _ => ?_⟩⟩
      rw [nI_clamp (by omega), nI_clamp (by omega)]
      exact ⟨vp_in_nI ha (by decide), fun z => absurd (na2.mpr z) hm, fun _ => ⟨vp_in_nI hb (by decide), fun _ => ⟨vp_in_nI ha (by decide), vp_in_nI hb (by decide), fun _ => vr_areIn (M := mu M 0 8 2) ha p4 _ _ _ ⟨fun _ => fun M1 e => by rw [e]; exact h, fun z => absurd hpl z⟩, fun z => absurd hst z⟩, fun z => absurd h0b z⟩⟩
  by_cases hpl2 : rcv (M 41 b) j n = 0
  · refine op_run (r := (-1000010) - 2) (M1 := mu M 0 8 2) (M2 := mu (mu M 0 8 2) 39 3 2) (fun Φ h => ?_) ⟨rfl, rfl⟩ (fun Φ h => ?_) (hI.find 2) ⟨rfl, rfl⟩
    · refine v_isRow M _ _ ⟨fun n => absurd n hw, fun _ => v_isRow M _ _ ⟨fun n => absurd n hl, fun _ => v_isMissing ha _ ⟨fun _ => v_isMissing hb _ ⟨fun _ => ?_, fun z => absurd hmb z⟩, fun z => absurd hma z⟩⟩⟩
      rw [nI_clamp (by omega), nI_clamp (by omega), p1, q1]
      refine ⟨vp_in_nI ha (by decide), vp_in_nI hb (by decide), fun _ => v_reaches ha (by rw [p2]; exact p4) _ _ _ ⟨fun z => absurd z (by rw [p2]; exact hpl), fun _ => v_reaches hb (by rw [q2]; exact q4) _ _ _ ⟨fun _ => fun M1 e => by rw [e]; exact h, fun z => absurd (by rw [q2]; exact hpl2) z⟩⟩, fun z => absurd hst z⟩
    · refine vr_isRow _ _ _ ⟨fun n => absurd n hw, fun _ => vr_isRow _ _ _ ⟨fun n => absurd n hl, fun _ => ?_⟩⟩
      rw [nI_clamp (by omega), nI_clamp (by omega)]
      exact ⟨vp_in_nI ha (by decide), fun z => absurd (na2.mpr z) hm, fun _ => ⟨vp_in_nI hb (by decide), fun _ => ⟨vp_in_nI ha (by decide), vp_in_nI hb (by decide), fun _ => vr_areIn (M := mu M 0 8 2) ha p4 _ _ _ ⟨fun z => absurd z hpl, fun _ => vr_areIn (M := mu M 0 8 2) hb q4 _ _ _ ⟨fun _ => fun M1 e => by rw [e]; exact h, fun z => absurd hpl2 z⟩⟩, fun z => absurd hst z⟩, fun z => absurd h0b z⟩⟩
  have ra := rcv_1 hpl
  have rb := rcv_1 hpl2
  obtain ⟨k, rfl, ek⟩ := ix_nI ra.1
  obtain ⟨n, rfl, en⟩ := ix_nI ra.2.1
  obtain ⟨m, rfl, em⟩ := ix_nI rb.1
  have h1 : k + n ≤ 40 := by omega
  have h2 : m + n ≤ 40 := by omega
  refine op_run (r := nI n) (M1 := mu (ms M 4 (va_cpy (M 4) (M 4) (40 * a + k) (40 * b + m) n)) 0 8 0) (M2 := mu (ms (ms (mu (ms M 4 (va_cpy (M 4) (M 4) (40 * a + k) (40 * b + m) n)) 0 8 0) 43 (va_cpy (M 42) (M 43) (40 * a + k) 0 n)) 42 (va_cpy (va_cpy (M 42) (M 43) (40 * a + k) 0 n) (M 42) 0 (40 * b + m) n)) 39 3 0) (fun Φ h => ?_) ⟨rfl, rfl⟩ (fun Φ h => ?_) ?_ ⟨rfl, rfl⟩
  · refine v_isRow M _ _ ⟨fun n => absurd n hw, fun _ => v_isRow M _ _ ⟨fun n => absurd n hl, fun _ => v_isMissing ha _ ⟨fun _ => v_isMissing hb _ ⟨fun _ => ?_, fun z => absurd hmb z⟩, fun z => absurd hma z⟩⟩⟩
    rw [nI_clamp (by omega), nI_clamp (by omega), p1, q1]
    refine ⟨vp_in_nI ha (by decide), vp_in_nI hb (by decide), fun _ => v_reaches ha (by rw [p2]; exact p4) _ _ _ ⟨fun z => absurd z (by rw [p2]; exact hpl), fun _ => v_reaches hb (by rw [q2]; exact q4) _ _ _ ⟨fun z => absurd z (by rw [q2]; exact hpl2), fun _ => ?_⟩⟩, fun z => absurd hst z⟩
    exact v_move ha hb h1 h2 _ (fun M1 e => by rw [e]; exact h)
  · refine vr_isRow _ _ _ ⟨fun n => absurd n hw, fun _ => vr_isRow _ _ _ ⟨fun n => absurd n hl, fun _ => ?_⟩⟩
    rw [nI_clamp (by omega), nI_clamp (by omega)]
    refine ⟨vp_in_nI ha (by decide), fun z => absurd (na2.mpr z) hm, fun _ => ⟨vp_in_nI hb (by decide), fun _ => ⟨vp_in_nI ha (by decide), vp_in_nI hb (by decide), fun _ => vr_areIn (M := mu (ms M 4 (va_cpy (M 4) (M 4) (40 * a + k) (40 * b + m) n)) 0 8 0) ha p4 _ _ _ ⟨fun z => absurd z hpl, fun _ => vr_areIn (M := mu (ms M 4 (va_cpy (M 4) (M 4) (40 * a + k) (40 * b + m) n)) 0 8 0) hb q4 _ _ _ ⟨fun z => absurd z hpl2, fun _ => ?_⟩⟩, fun z => absurd hst z⟩, fun z => absurd h0b z⟩⟩
    exact vr_copyLoop ha hb h1 h2 _ h
  · refine ⟨⟨rfl, fun r hr => ?_⟩, hI.2⟩
    obtain ⟨w1, w2, w3, w4, w5⟩ := hI.1.2 r hr
    refine ⟨w1, w2, w3, w4, fun z hz => ?_⟩
    show va_cpy (M 4) (M 4) (40 * a + k) (40 * b + m) n (40 * r + z) = va_cpy (va_cpy (M 42) (M 43) (40 * a + k) 0 n) (M 42) 0 (40 * b + m) n (40 * r + z)
    by_cases h : 40 * b + m ≤ 40 * r + z ∧ 40 * r + z < 40 * b + m + n
    · rw [cpy_in _ _ h.1 h.2, cpy_in _ _ h.1 h.2, cpy_in _ _ (by omega) (by omega)]
      have hz' : (z : Int) < (M 41 r).toInt := hz
      have := p5 (k + (40 * r + z - (40 * b + m))) (by omega)
      rw [show 40 * a + k + (40 * r + z - (40 * b + m)) = 40 * a + (k + (40 * r + z - (40 * b + m))) by omega, this]
      congr 1
      omega
    · rw [cpy_out _ _ h, cpy_out _ _ h]
      exact w5 z hz
end Move
