/-! calls with ROWS, and the tape -/
def Run (S : (Int32 → Mm → Prop) → Prop) (r : Int32) (M1 : Mm) : Prop := ∀ Φ : Int32 → Mm → Prop, Φ r M1 → S Φ
theorem op_run {M : Mm} {S : (Int32 → Mm → Prop) → Prop} {SR : Mm → (Int32 → Mm → Prop) → Prop} {r : Int32} {M1 M2 : Mm} (h : Run S r M1) (hk : Keep M M1) (hR : Run (SR M1) r M2) (hI : Inv M2) (hk2 : Keep M M2) : Op Inv M S SR :=
  fun Φ k => h Φ (k r M1 hk (fun Ψ hΨ => hR Ψ (hΨ M2 hI hk2)))
/-- the lowest bits, as many as the LANE has -/
def low (ln x : Int32) : Int32 := if ln = 0 then Int8.toInt32 (Int32.toInt8 x) else if ln = 1 then Int16.toInt32 (Int32.toInt16 x) else x
section Rows
variable {M : Mm}
/-- a finding, or none, alike -/
theorem Inv.find (hI : Inv M) (n : Int32) : Inv (mu (mu M 0 8 n) 39 3 n) := ⟨⟨rfl, hI.1.2⟩, hI.2⟩
theorem row_nI {a : Int32} (h : ¬ wi a 0 7 = 0) : ∃ i : Nat, a = nI i ∧ i < 8 := by
  have hb := wi_1 h
  have e0 : (0 : Int32).toInt = 0 := by decide
  have e7 : (7 : Int32).toInt = 7 := by decide
  rw [e0, e7] at hb
  exact ⟨a.toInt.toNat, nI_of_toInt (by omega), by omega⟩
/-- missing -/
def msv (ln : Nat → Int32) (i : Nat) : Int32 := if ln i = -1 then 1 else 0
theorem v_isMissing {i : Nat} (hi : i < 8) : Val (S_Rows_isMissing M (nI i)) (msv (M 2) i) := by
  intro Φ h
  unfold S_Rows_isMissing
  rw [nI_clamp (by omega)]
  unfold msv at h
  refine ⟨vp_in_nI hi (by decide), fun q => ?_, fun q => ?_⟩
  · rw [if_pos q] at h; exact h
  · rw [if_neg q] at h; exact h
theorem lane_neg {x : Int32} (h1 : -1 ≤ x.toInt) : (x = -1 ↔ ¬ 0 ≤ x) ∧ (x = -1 ↔ x < 0) := by
  have e0 : (0 : Int32).toInt = 0 := by decide
  have em : (-1 : Int32).toInt = -1 := by decide
  rw [tI_eq, tI_le, tI_lt, em, e0]; omega
theorem ix_nI {b : Int32} (h0 : 0 ≤ b.toInt) : ∃ k : Nat, b = nI k ∧ (k : Int) = b.toInt := ⟨b.toInt.toNat, nI_of_toInt (by omega), by omega⟩
theorem vr_lowest (M : Mm) (ln x : Int32) : Val (S_R_lowest M ln x) (low ln x) := by
  intro Φ h
  unfold low at h
  refine ⟨fun h0 => ?_, fun h0 => ⟨fun h1 => ?_, fun h1 => ?_⟩⟩
  · rw [if_pos h0] at h; exact h
  · rw [if_neg h0, if_pos h1] at h; exact h
  · rw [if_neg h0, if_neg h1] at h; exact h
theorem place_nI (r k : Nat) : nI r * 40 + nI k = nI (40 * r + k) ∧ 40 * nI r + nI k = nI (40 * r + k) := by
  rw [show (40 : Int32) = nI 40 from rfl, pk_mul, pk_mul, nI_add, nI_add, Nat.mul_comm]; exact ⟨rfl, rfl⟩
theorem op_drop (hI : Inv M) : Op_drop Inv M := by
  intro a
  by_cases hw : wi a 0 7 = 0
  · refine op_run (r := -1000001) (M1 := M) (M2 := M) (fun Φ h => ?_) ⟨rfl, rfl⟩ (fun Φ h => ?_) hI ⟨rfl, rfl⟩
    · exact v_isRow M a _ ⟨fun _ => h, fun n => absurd hw n⟩
    · exact vr_isRow M a _ ⟨fun _ => h, fun n => absurd hw n⟩
  · obtain ⟨i, rfl, hi⟩ := row_nI hw
    obtain ⟨q1, q2, q3, q4, q5⟩ := hI.1.2 i hi
    obtain ⟨n1, n2⟩ := lane_neg q3.1
    by_cases hm : M 40 i = -1
    · refine op_run (r := (-1000010) - 1) (M1 := mu M 0 8 1) (M2 := mu (mu M 0 8 1) 39 3 1) (fun Φ h => ?_) ⟨rfl, rfl⟩ (fun Φ h => ?_) (hI.find 1) ⟨rfl, rfl⟩
      · refine v_isRow M _ _ ⟨fun n => absurd n hw, fun _ => v_isMissing hi _ ⟨fun n => ?_, fun _ => fun M1 e => by rw [e]; exact h⟩⟩
        unfold msv at n; rw [q1, if_pos hm] at n; exact absurd n (by decide)
      · refine vr_isRow _ _ _ ⟨fun n => absurd n hw, fun _ => ?_⟩
        rw [nI_clamp (by omega)]
        exact ⟨vp_in_nI hi (by decide), fun n => absurd n (n1.mp hm), fun _ => fun M1 e => by rw [e]; exact h⟩
    · refine op_run (r := M 41 i) (M1 := mu (mu M 2 i (-1)) 0 8 0) (M2 := mu (mu (mu (mu M 2 i (-1)) 0 8 0) 40 i (-1)) 39 3 0) (fun Φ h => ?_) ⟨rfl, rfl⟩ (fun Φ h => ?_) ?_ ⟨rfl, rfl⟩
      · refine v_isRow M _ _ ⟨fun n => absurd n hw, fun _ => v_isMissing hi _ ⟨fun _ => ?_, fun n => ?_⟩⟩
        · unfold S_Rows_remove
          rw [nI_clamp (by omega)]
          refine ⟨vp_in_nI hi (by decide), fun M1 e => ⟨vp_in_nI hi (by decide), fun M2 e2 => ?_⟩⟩
          rw [e2, e]
          show Φ (M 3 i) _
          rw [q2]; exact h
        · unfold msv at n; rw [q1, if_neg hm] at n; exact absurd rfl n
      · refine vr_isRow _ _ _ ⟨fun n => absurd n hw, fun _ => ?_⟩
        rw [nI_clamp (by omega)]
        refine ⟨vp_in_nI hi (by decide), fun _ => ⟨vp_in_nI hi (by decide), fun M1 e => ⟨vp_in_nI hi (by decide), fun M2 e2 => ?_⟩⟩, fun n => absurd n (fun z => hm (n1.mpr z))⟩
        rw [e2, e]
        exact h
      · refine ⟨⟨rfl, fun r hr => ?_⟩, hI.2⟩
        obtain ⟨p1, p2, p3, p4, p5⟩ := hI.1.2 r hr
        have em : (-1 : Int32).toInt = -1 := by decide
        refine ⟨?_, p2, ?_, p4, p5⟩
        · show upd (M 2) i (-1) r = upd (M 40) i (-1) r
          by_cases h : r = i
          · subst h; simp [upd]
          · simp only [upd, h, if_false]; exact p1
        · show -1 ≤ (upd (M 40) i (-1) r).toInt ∧ (upd (M 40) i (-1) r).toInt ≤ 2
          by_cases h : r = i
          · subst h; simp only [upd, if_true, em]; omega
          · simp only [upd, h, if_false]; exact p3
/-- n ITEMS from i on are there -/
def rcv (sz a n : Int32) : Int32 := if 0 ≤ a.toInt ∧ 0 ≤ n.toInt ∧ a.toInt + n.toInt ≤ sz.toInt then 1 else 0
theorem rcv_1 {sz a n : Int32} (h : ¬ rcv sz a n = 0) : 0 ≤ a.toInt ∧ 0 ≤ n.toInt ∧ a.toInt + n.toInt ≤ sz.toInt := by
  unfold rcv at h; split at h
  · assumption
  · exact absurd rfl h
theorem v_reaches {r : Nat} (hr : r < 8) (h40 : 0 ≤ (M 3 r).toInt ∧ (M 3 r).toInt ≤ 40) (a n : Int32) : Val (S_Rows_reaches M (nI r) a n) (rcv (M 3 r) a n) := by
  intro Φ h
  have e0 : (0 : Int32).toInt = 0 := by decide
  have ba := tI_bnd a
  have bn := tI_bnd n
  unfold S_Rows_reaches
  rw [nI_clamp (by omega)]
  unfold rcv at h
  refine ⟨fun h1 => ?_, fun h1 => ⟨fun h2 => ?_, fun h2 => ⟨vp_in_nI hr (by decide), fun h3 => ?_, fun h3 => ⟨vp_in_nI hr (by decide), fun h4 => ?_, fun h4 => ?_⟩⟩⟩⟩
  · rw [tI_lt, e0] at h1; rw [if_neg (by omega)] at h; exact h
  · rw [tI_lt, e0] at h1 h2; rw [if_neg (by omega)] at h; exact h
  · rw [tI_lt, e0] at h1 h2; rw [tI_lt] at h3; rw [if_neg (by omega)] at h; exact h
  · rw [tI_lt, e0] at h1 h2; rw [tI_lt] at h3 h4; rw [tI_sub (by omega) (by omega)] at h4; rw [if_neg (by omega)] at h; exact h
  · rw [tI_lt, e0] at h1 h2; rw [tI_lt] at h3 h4; rw [tI_sub (by omega) (by omega)] at h4; rw [if_pos (by omega)] at h; exact h
theorem vr_areIn {r : Nat} (hr : r < 8) (h40 : 0 ≤ (M 41 r).toInt ∧ (M 41 r).toInt ≤ 40) (a n : Int32) : Val (S_R_areIn M (nI r) a n) (rcv (M 41 r) a n) := by
  intro Φ h
  have e0 : (0 : Int32).toInt = 0 := by decide
  have ba := tI_bnd a
  have bn := tI_bnd n
  unfold S_R_areIn
  rw [nI_clamp (by omega)]
  unfold rcv at h
  refine ⟨fun h1 => ?_, fun h1 => ⟨fun h2 => ?_, fun h2 => ⟨vp_in_nI hr (by decide), fun h3 => ?_, fun h3 => ?_⟩⟩⟩
  · rw [tI_lt, e0] at h1; rw [if_neg (by omega)] at h; exact h
  · rw [tI_lt, e0] at h1 h2; rw [if_neg (by omega)] at h; exact h
  · rw [tI_lt, e0] at h1 h2; rw [tI_lt] at h3; rw [tI_sub (by omega) (by omega)] at h3; rw [if_neg (by omega)] at h; exact h
  · rw [tI_lt, e0] at h1 h2; rw [tI_lt] at h3; rw [tI_sub (by omega) (by omega)] at h3; rw [if_pos (by omega)] at h; exact h
theorem v_put {r k : Nat} (hr : r < 8) (hk : k < 40) (x : Int32) : Run (S_Rows_put M (nI r) (nI k) x) (low (M 2 r) x) (mu M 4 (40 * r + k) (low (M 2 r) x)) := by
  intro Φ h
  have ep : nI r * 40 + nI k = nI (40 * r + k) := by rw [show (40 : Int32) = nI 40 from rfl, pk_mul, nI_add, Nat.mul_comm]
  unfold S_Rows_put D_Rows_put_16 D_Rows_put_30 S_Rows_placeOf
  simp only [nI_clamp (show r < 2 ^ 31 by omega), ep, nI_clamp (show 40 * r + k < 2 ^ 31 by omega)]
  have g8 : vp_in (nI r) 8 := vp_in_nI hr (by decide)
  have g3 : vp_in (nI (40 * r + k)) 320 := vp_in_nI (by omega) (by decide)
  unfold low at h
  refine ⟨g8, fun h0 => ⟨g8, fun h1 => absurd (h0.symm.trans h1) (by decide), fun h1 => ⟨g3, fun M5 e => ?_⟩⟩, fun h0 => ⟨g8, fun h1 => ⟨g3, fun M5 e => ?_⟩, fun h1 => ⟨g3, fun M5 e => ?_⟩⟩⟩
  · rw [if_pos h0] at h; rw [e]; exact h
  · rw [if_neg h0, if_pos h1] at h; rw [e]; exact h
  · rw [if_neg h0, if_neg h1] at h; rw [e]; exact h
theorem op_set (hI : Inv M) : Op_set Inv M := by
  intro a b x
  by_cases hw : wi a 0 7 = 0
  · refine op_run (r := -1000001) (M1 := M) (M2 := M) (fun Φ h => ?_) ⟨rfl, rfl⟩ (fun Φ h => ?_) hI ⟨rfl, rfl⟩
    · exact v_isRow M a _ ⟨fun _ => h, fun n => absurd hw n⟩
    · exact vr_isRow M a _ ⟨fun _ => h, fun n => absurd hw n⟩
  · obtain ⟨i, rfl, hi⟩ := row_nI hw
    obtain ⟨q1, q2, q3, q4, q5⟩ := hI.1.2 i hi
    obtain ⟨n1, n2⟩ := lane_neg q3.1
    have e0 : (0 : Int32).toInt = 0 := by decide
    have e1 : (1 : Int32).toInt = 1 := by decide
    by_cases hm : M 40 i = -1
    · refine op_run (r := (-1000010) - 1) (M1 := mu M 0 8 1) (M2 := mu (mu M 0 8 1) 39 3 1) (fun Φ h => ?_) ⟨rfl, rfl⟩ (fun Φ h => ?_) (hI.find 1) ⟨rfl, rfl⟩
      · refine v_isRow M _ _ ⟨fun n => absurd n hw, fun _ => v_isMissing hi _ ⟨fun n => ?_, fun _ => fun M1 e => by rw [e]; exact h⟩⟩
        unfold msv at n; rw [q1, if_pos hm] at n; exact absurd n (by decide)
      · refine vr_isRow _ _ _ ⟨fun n => absurd n hw, fun _ => ?_⟩
        rw [nI_clamp (by omega)]
        exact ⟨vp_in_nI hi (by decide), fun n => absurd n (n1.mp hm), fun _ => fun M1 e => by rw [e]; exact h⟩
    · have hmz : msv (M 2) i = 0 := by unfold msv; rw [q1, if_neg hm]
      by_cases hp : rcv (M 41 i) b 1 = 0
      · have hwi : wi b 0 (M 41 i - 1) = 0 := by
          unfold rcv at hp; unfold wi
          rw [sub1 q4.1, e0]
          rw [e1] at hp
          split at hp
          · exact absurd hp (by decide)
          · rw [if_neg (by omega)]
        refine op_run (r := (-1000010) - 2) (M1 := mu M 0 8 2) (M2 := mu (mu M 0 8 2) 39 3 2) (fun Φ h => ?_) ⟨rfl, rfl⟩ (fun Φ h => ?_) (hI.find 2) ⟨rfl, rfl⟩
        · refine v_isRow M _ _ ⟨fun n => absurd n hw, fun _ => v_isMissing hi _ ⟨fun _ => v_reaches hi (by rw [q2]; exact q4) b 1 _ ⟨fun _ => fun M1 e => by rw [e]; exact h, fun n => absurd (by rw [q2]; exact hp) n⟩, fun n => absurd hmz n⟩⟩
        · refine vr_isRow _ _ _ ⟨fun n => absurd n hw, fun _ => ?_⟩
          rw [nI_clamp (by omega)]
          exact ⟨vp_in_nI hi (by decide), fun _ => ⟨vp_in_nI hi (by decide), v_in _ _ _ _ _ ⟨fun _ => fun M1 e => by rw [e]; exact h, fun n => absurd hwi n⟩⟩, fun n => absurd n (fun z => hm (n1.mpr z))⟩
      · have hb := rcv_1 hp
        rw [e1] at hb
        obtain ⟨k, rfl, ek⟩ := ix_nI hb.1
        have hk40 : k < 40 := by omega
        have hwi : ¬ wi (nI k) 0 (M 41 i - 1) = 0 := by
          unfold wi
          rw [sub1 q4.1, e0, if_pos (by omega)]; decide
        have ep := (place_nI i k).2
        refine op_run (r := low (M 40 i) x) (M1 := mu (mu M 4 (40 * i + k) (low (M 40 i) x)) 0 8 0) (M2 := mu (mu (mu (mu M 4 (40 * i + k) (low (M 40 i) x)) 0 8 0) 42 (40 * i + k) (low (M 40 i) x)) 39 3 0) (fun Φ h => ?_) ⟨rfl, rfl⟩ (fun Φ h => ?_) ?_ ⟨rfl, rfl⟩
        · refine v_isRow M _ _ ⟨fun n => absurd n hw, fun _ => v_isMissing hi _ ⟨fun _ => v_reaches hi (by rw [q2]; exact q4) (nI k) 1 _ ⟨fun n => absurd n (by rw [q2]; exact hp), fun _ => ?_⟩, fun n => absurd hmz n⟩⟩
          rw [← q1] at h
          exact v_put hi hk40 x _ (fun M1 e => by rw [e]; exact h)
        · refine vr_isRow _ _ _ ⟨fun n => absurd n hw, fun _ => ?_⟩
          rw [nI_clamp (by omega)]
          refine ⟨vp_in_nI hi (by decide), fun _ => ⟨vp_in_nI hi (by decide), v_in _ _ _ _ _ ⟨fun n => absurd n hwi, fun _ => ⟨vp_in_nI hi (by decide), vr_lowest _ _ _ _ ?_⟩⟩⟩, fun n => absurd n (fun z => hm (n1.mpr z))⟩
          rw [ep, nI_clamp (by omega)]
          refine ⟨vp_in_nI (by omega) (by decide), fun M7 e => ⟨vp_in_nI (by omega) (by decide), fun M8 e8 => ?_⟩⟩
          rw [e8, e]
          show Φ (upd (M 42) (40 * i + k) (low (M 40 i) x) (40 * i + k)) _
          simp only [upd, if_true]
          exact h
        · refine ⟨⟨rfl, fun r hr => ?_⟩, hI.2⟩
          obtain ⟨p1, p2, p3, p4, p5⟩ := hI.1.2 r hr
          refine ⟨p1, p2, p3, p4, fun z hz => ?_⟩
          show upd (M 4) (40 * i + k) _ (40 * r + z) = upd (M 42) (40 * i + k) _ (40 * r + z)
          simp only [upd]
          by_cases h : 40 * r + z = 40 * i + k
          · rw [if_pos h, if_pos h]
          · rw [if_neg h, if_neg h]; exact p5 z hz
/-- bytes of the tape -/
theorem byte_255 {x : Int32} (h0 : 0 ≤ x.toInt) (h1 : x.toInt ≤ 255) : vp_nar .byte (Int8.toInt32 (Int32.toInt8 x)) &&& 255 = x := by
  obtain ⟨n, rfl, en⟩ := ix_nI h0
  have hn : n < 256 := by omega
  have key : ∀ m : Fin 256, vp_nar .byte (Int8.toInt32 (Int32.toInt8 (nI m.val))) &&& 255 = nI m.val := by decide +kernel
  exact key ⟨n, hn⟩
theorem op_feed (hI : Inv M) : Op_feed Inv M := by
  intro a
  obtain ⟨t1, t2, t3⟩ := hI.2.1
  have e0 : (0 : Int32).toInt = 0 := by decide
  have e80 : (80 : Int32).toInt = 80 := by decide
  have e255 : (255 : Int32).toInt = 255 := by decide
  by_cases hw : wi a 0 255 = 0
  · refine op_run (r := -1000001) (M1 := M) (M2 := M) (fun Φ h => ?_) ⟨rfl, rfl⟩ (fun Φ h => ?_) hI ⟨rfl, rfl⟩
    · exact v_within M a _ _ _ ⟨fun _ => h, fun n => absurd hw n⟩
    · exact v_in M a _ _ _ ⟨fun _ => h, fun n => absurd hw n⟩
  · have hb := wi_1 hw
    rw [e0, e255] at hb
    by_cases hf : M 39 13 = 80
    · refine op_run (r := -1000003) (M1 := M) (M2 := M) (fun Φ h => ?_) ⟨rfl, rfl⟩ (fun Φ h => ?_) hI ⟨rfl, rfl⟩
      · refine v_within M a _ _ _ ⟨fun n => absurd n hw, fun _ => ⟨fun n => absurd n (by rw [t1, hf]; decide), fun _ => h⟩⟩
      · exact v_in M a _ _ _ ⟨fun n => absurd n hw, fun _ => ⟨fun _ => h, fun n => absurd hf n⟩⟩
    · obtain ⟨n, en, et⟩ := ix_nI t2.1
      have hn : n < 80 := by
        have : ¬ (M 39 13).toInt = 80 := fun z => hf (by rw [tI_eq, z, e80])
        omega
      refine op_run (r := M 39 13 + 1) (M1 := mu (mu M 6 n a) 5 1 (M 5 1 + 1)) (M2 := mu (mu (mu (mu M 6 n a) 5 1 (M 5 1 + 1)) 49 n (vp_nar .byte (Int8.toInt32 (Int32.toInt8 a)))) 39 13 (M 39 13 + 1)) (fun Φ h => ?_) ⟨rfl, rfl⟩ (fun Φ h => ?_) ?_ ⟨rfl, rfl⟩
      · have hlt : M 5 1 < 80 := by rw [t1, tI_lt, e80]; omega
        refine v_within M a _ _ _ ⟨fun z => absurd z hw, fun _ => ⟨fun _ => ⟨fun _ => ?_, fun z => absurd hlt z⟩, fun z => absurd hlt z⟩⟩
        refine ⟨by rw [t1, en]; exact vp_in_nI hn (by decide), fun M2 e2 M3 e3 => ?_⟩
        have ec : Int32.toNatClampNeg (M 5 1) = n := by rw [t1, en]; exact nI_clamp (by omega)
        rw [e3, e2]
        show Φ (M 5 1 + 1) (mu (mu M 6 (Int32.toNatClampNeg (M 5 1)) a) 5 1 (M 5 1 + 1))
        rw [ec, t1]
        rw [t1] at h
        exact h
      · refine v_in _ a _ _ _ ⟨fun z => absurd z hw, fun _ => ⟨fun z => absurd z hf, fun _ => ?_⟩⟩
        refine ⟨by show vp_in (M 39 13) 80; rw [en]; exact vp_in_nI hn (by decide), fun M4 e4 M5 e5 => ?_⟩
        have ec : Int32.toNatClampNeg (M 39 13) = n := by rw [en]; exact nI_clamp (by omega)
        rw [e5, e4]
        have e4' : ∀ N : Mm, mu N 49 (Int32.toNatClampNeg (M 39 13)) (vp_nar .byte (Int8.toInt32 (Int32.toInt8 a))) = mu N 49 n (vp_nar .byte (Int8.toInt32 (Int32.toInt8 a))) := fun N => by rw [ec]
        have := e4' (mu (mu M 6 n a) 5 1 (M 5 1 + 1))
        show Φ (M 39 13 + 1) (mu (mu (mu (mu M 6 n a) 5 1 (M 5 1 + 1)) 49 (Int32.toNatClampNeg (M 39 13)) _) 39 13 (M 39 13 + 1))
        rw [this]
        exact h
      · have ei : (M 39 13 + 1).toInt = (M 39 13).toInt + 1 := by
          rw [tI_add (by rw [show (1 : Int32).toInt = 1 from by decide]; omega) (by rw [show (1 : Int32).toInt = 1 from by decide]; omega)]; rfl
        refine ⟨hI.1, ⟨?_, ?_, fun i hi => ?_⟩, hI.2.2⟩
        · show M 5 1 + 1 = M 39 13 + 1
          rw [t1]
        · show 0 ≤ (M 39 13 + 1).toInt ∧ (M 39 13 + 1).toInt ≤ 80
          omega
        · have hi : (i : Int) < (M 39 13 + 1).toInt := hi
          show upd (M 6) n a i = upd (M 49) n _ i &&& 255 ∧ 0 ≤ (upd (M 6) n a i).toInt ∧ (upd (M 6) n a i).toInt ≤ 255
          by_cases h : i = n
          · subst h
            simp only [upd, if_true]
            exact ⟨(byte_255 hb.1 hb.2).symm, hb.1, hb.2⟩
          · simp only [upd, h, if_false]
            exact t3 i (by omega)
end Rows
