/-! ACTS: what is kept ahead of each, taken back; strength, slope, undo -/
theorem VB.congr {b b' : Nat → Int32} (h : VB b) (e : ∀ j, j < 35 → b' j = b j) : VB b' := by
  obtain ⟨⟨h1, h2, h3, h4, h5, h6, h7, h8⟩, hr, hc, hs⟩ := h
  have e0 := e 0 (by decide); have e1 := e 1 (by decide); have e2 := e 2 (by decide); have e3 := e 3 (by decide)
  have e4 := e 4 (by decide); have e5 := e 5 (by decide); have e6 := e 6 (by decide); have e7 := e 7 (by decide)
  unfold VB
  rw [e0, e1, e2, e3, e4, e5, e6, e7]
  refine ⟨⟨h1, h2, h3, h4, h5, h6, h7, h8⟩, fun i hi => ?_, fun i hi => ?_, fun i hi => ?_⟩
  · rw [e (8 + i) (by omega)]; exact hr i hi
  · rw [e (11 + i) (by omega), e (17 + i) (by omega), e (29 + i) (by omega)]; exact hc i hi
  · rw [e (23 + i) (by omega)]; exact hs i hi
/-- what an ACT leaves as it is -/
def Stay (v v' : Nat → Int32) : Prop := ∀ j : Nat, (1 ≤ j ∧ j ≤ 3) ∨ (8 ≤ j ∧ j < 23) → v j = v' j
theorem Rec.congr {c b v c' b' v' : Nat → Int32} (h : Rec c b v) (ec : ∀ j, j < 17 → c' j = c j) (eb : ∀ j, j < 35 → b' j = b j) (ev : Stay v v') : Rec c' b' v' := by
  obtain ⟨⟨h1, h2, h3, h4, h5⟩, hs, ht, hst, hV⟩ := h
  have e3 := ev 3 (by omega)
  have e2 := ev 2 (by omega)
  have g3 := hst 3 (by omega)
  have g2 := hst 2 (by omega)
  have q3 := hV.1.2.2.1
  have q2 := hV.1.2.1
  rw [g3] at q3
  rw [g2] at q2
  refine ⟨⟨?_, ?_, ?_, ?_, ?_⟩, fun j hj => ?_, fun j hj => ?_, fun j hj => ?_, hV.congr eb⟩
  · rw [ec 0 (by decide), eb 0 (by decide)]; exact h1
  · rw [ec 1 (by decide), eb 4 (by decide)]; exact h2
  · rw [ec 2 (by decide), eb 5 (by decide)]; exact h3
  · rw [ec 3 (by decide), eb 6 (by decide)]; exact h4
  · rw [ec 4 (by decide), eb 7 (by decide)]; exact h5
  · rw [← e3] at hj
    rw [ec (5 + j) (by omega), eb (23 + j) (by omega)]; exact hs j hj
  · rw [← e2] at hj
    rw [ec (11 + j) (by omega), eb (29 + j) (by omega)]; exact ht j hj
  · rw [eb j (by omega), ← ev j hj]; exact hst j hj
def kpF (kp f on sl : Nat → Int32) (p : Nat) : Nat → Int32 :=
  va_cpy on (va_cpy sl (upd (upd (upd (upd (upd kp (17 * p) (f 4)) (17 * p + 1) (f 5)) (17 * p + 2) (f 6)) (17 * p + 3) (f 7)) (17 * p + 4) (f 8)) 0 (17 * p + 5) 6) 0 (17 * p + 11) 6
def bfF (bf v : Nat → Int32) (s : Nat) : Nat → Int32 := if s = 24 then va_cpy v (va_cpy bf bf 35 0 805) 0 (35 * 23) 35 else va_cpy v bf 0 (35 * s) 35
def KM (M : Mm) (p s : Nat) : Mm := mu (mu (ms M 33 (kpF (M 33) (M 7) (M 11) (M 12) p)) 32 2 (nI ((p + 1) % 24))) 32 1 (nI (min 24 (s + 1)))
def RM (M : Mm) (s : Nat) : Mm := mu (ms M 46 (bfF (M 46) (M 44) s)) 39 9 (nI (min 24 (s + 1)))
theorem ix17 (p t : Nat) : nI p * 17 + nI t = nI (17 * p + t) := by
  rw [show (17 : Int32) = nI 17 from rfl, pk_mul, nI_add, Nat.mul_comm]
theorem ix35 (s t : Nat) : 35 * nI s + nI t = nI (35 * s + t) := by
  rw [show (35 : Int32) = nI 35 from rfl, pk_mul, nI_add]
theorem mod24 {a : Nat} (h : a < 1000) : irm (nI a) 24 = nI (a % 24) := pk_rem (d := 24) (by omega) (by decide) (by decide)
theorem cpOk_nI {a b n N0 N1 : Nat} {x y z : Int32} (ex : x = nI a) (ey : y = nI b) (ez : z = nI n) (h0 : a + n ≤ N0) (h1 : b + n ≤ N1) (H0 : N0 < 2 ^ 31) (H1 : N1 < 2 ^ 31) : cpOk x y z N0 N1 := by
  have e0 : (0 : Int32).toInt = 0 := by decide
  have g1 := nI_toInt (n := a) (by omega)
  have g2 := nI_toInt (n := b) (by omega)
  have g3 := nI_toInt (n := n) (by omega)
  rw [ex, ey, ez]
  refine ⟨by rw [tI_lt]; omega, by rw [tI_lt]; omega, by rw [tI_lt]; omega, ?_, ?_⟩
  · rw [nI_clamp (by omega), nI_clamp (by omega)]; exact h0
  · rw [nI_clamp (by omega), nI_clamp (by omega)]; exact h1
section Acts
variable {M : Mm}
theorem v_keep {p s : Nat} (hp : p < 24) (hs : s ≤ 24) (ep : M 32 2 = nI p) (es : M 32 1 = nI s) : RunV (S_Acts_keep M) (KM M p s) := by
  intro Φ h
  have e0 : M 32 2 * 17 + 0 = nI (17 * p) := by rw [ep]; exact ix17 p 0
  have e1 : M 32 2 * 17 + 1 = nI (17 * p + 1) := by rw [ep]; exact ix17 p 1
  have e2 : M 32 2 * 17 + 2 = nI (17 * p + 2) := by rw [ep]; exact ix17 p 2
  have e3 : M 32 2 * 17 + 3 = nI (17 * p + 3) := by rw [ep]; exact ix17 p 3
  have e4 : M 32 2 * 17 + 4 = nI (17 * p + 4) := by rw [ep]; exact ix17 p 4
  have e5 : M 32 2 * 17 + 5 = nI (17 * p + 5) := by rw [ep]; exact ix17 p 5
  have e11 : M 32 2 * 17 + 11 = nI (17 * p + 11) := by rw [ep]; exact ix17 p 11
  unfold S_Acts_keep
  rw [e0, e1, e2, e3, e4, e5, e11, nI_clamp (n := 17 * p) (by omega), nI_clamp (n := 17 * p + 1) (by omega), nI_clamp (n := 17 * p + 2) (by omega), nI_clamp (n := 17 * p + 3) (by omega), nI_clamp (n := 17 * p + 4) (by omega), nI_clamp (n := 17 * p + 5) (by omega), nI_clamp (n := 17 * p + 11) (by omega)]
  refine ⟨vp_in_nI (by omega) (by decide), fun M1 q1 => ⟨vp_in_nI (by omega) (by decide), fun M2 q2 => ⟨vp_in_nI (by omega) (by decide), fun M3 q3 => ⟨vp_in_nI (by omega) (by decide), fun M4 q4 => ⟨vp_in_nI (by omega) (by decide), fun M5 q5 => ⟨cpOk_nI (a := 0) (n := 6) rfl rfl rfl (by decide) (by omega) (by decide) (by decide), fun M6 q6 => ⟨cpOk_nI (a := 0) (n := 6) rfl rfl rfl (by decide) (by omega) (by decide) (by decide), fun M7 q7 => fun M8 q8 => ?_⟩⟩⟩⟩⟩⟩⟩
  have key : M7 = ms M 33 (kpF (M 33) (M 7) (M 11) (M 12) p) := by
    rw [q7, q6, q5, q4, q3, q2, q1]
    unfold mcp
    rw [ms_ms]
    unfold mu
    simp only [ms_ms, ms_at]
    rfl
  have k8 : M8 = mu M7 32 2 (nI ((p + 1) % 24)) := by
    rw [q8]
    have : M7 32 2 = nI p := by rw [key]; exact ep
    rw [this, nI_inc, mod24 (by omega)]
  have k9 : M8 32 1 + 1 = nI (s + 1) := by
    rw [k8, key]
    show M 32 1 + 1 = _
    rw [es, nI_inc]
  rw [k9]
  have g := nI_toInt (n := s + 1) (by omega)
  have e24 : (24 : Int32).toInt = 24 := by decide
  refine ⟨fun z => ?_, fun z => ?_⟩ <;> rw [tI_lt, g, e24] at z
  · intro M10 q10
    rw [q10, k8, key]
    unfold KM at h
    rw [show min 24 (s + 1) = s + 1 by omega] at h
    exact h
  · intro M10 q10
    rw [q10, k8, key]
    unfold KM at h
    rw [show min 24 (s + 1) = 24 by omega] at h
    exact h
theorem vr_know1 {s : Nat} (hs : s < 24) (es : M 39 9 = nI s) : RunV (D_R_know_49 · M) (mu (ms M 46 (va_cpy (M 44) (M 46) 0 (35 * s) 35)) 39 9 (nI (s + 1))) := by
  intro Φ h
  refine lp_ex (fun q (a : Int32 × Mm) => ∃ j, j + q = 35 ∧ a = (nI j, ms M 46 (va_cpy (M 44) (M 46) 0 (35 * s) j))) ?_ ?_ (i := 35) ⟨0, by omega, ?_⟩
  · rintro a ⟨j, hj, rfl⟩ rec
    obtain rfl : j = 35 := by omega
    refine ⟨fun _ => fun M1 e => ?_, fun z => absurd (by decide) z⟩
    rw [e]
    show Φ (mu _ 39 9 (M 39 9 + 1))
    rw [es, nI_inc]
    exact h
  · rintro q a ⟨j, hj, rfl⟩ rec hrec
    have ei : 35 * M 39 9 + nI j = nI (35 * s + j) := by rw [es]; exact ix35 s j
    refine ⟨fun z => absurd z (nle 35 (by omega) (by omega)), fun _ => ?_⟩
    show vp_in _ _ ∧ vp_in (35 * M 39 9 + nI j) _ ∧ ∀ M4, M4 = mu _ 46 (Int32.toNatClampNeg (35 * M 39 9 + nI j)) (M 44 _) → _
    rw [ei]
    refine ⟨vp_in_nI (by omega) (by decide), vp_in_nI (by omega) (by decide), fun M4 e => hrec _ ⟨j + 1, by omega, ?_⟩⟩
    rw [e, nI_clamp (by omega), nI_clamp (by omega), nI_inc, mu_ms, ← cpy_s _ _ _ _ j, Nat.zero_add]
  · rw [cpy_0, ms_self]; rfl
theorem mem_96 (B C : Nat → Int32) (x y : Int32) : mu (ms (mu (ms M 46 B) 39 9 x) 46 C) 39 9 y = mu (ms M 46 C) 39 9 y := by
  funext j
  unfold mu ms
  by_cases h : j = 39
  · simp only [h, if_true]
    funext i
    unfold upd
    by_cases h2 : i = 9
    · rw [if_pos h2, if_pos h2]
    · rw [if_neg h2, if_neg h2]; simp [h2]
  · simp only [h, if_false]
    by_cases h2 : j = 46
    · simp [h2]
    · simp [h2]
theorem vr_know {s : Nat} (hs : s ≤ 24) (es : M 39 9 = nI s) : RunV (S_R_know M) (RM M s) := by
  intro Φ h
  have e24 : (24 : Int32).toInt = 24 := by decide
  have gs := nI_toInt (n := s) (by omega)
  unfold RM bfF at h
  refine ⟨fun z => ?_, fun z => ?_⟩ <;> rw [tI_eq, es, gs, e24] at z
  · obtain rfl : s = 24 := by omega
    rw [if_pos rfl] at h
    refine lp_ex (fun q (a : Int32 × Mm) => ∃ j, j + q = 805 ∧ a = (nI j, ms M 46 (va_cpy (M 46) (M 46) 35 0 j))) ?_ ?_ (i := 805) ⟨0, by omega, ?_⟩
    · rintro a ⟨j, hj, rfl⟩ rec
      obtain rfl : j = 805 := by omega
      refine ⟨fun _ => fun M1 e => ?_, fun z => absurd (by decide) z⟩
      have k1 : M1 = mu (ms M 46 (va_cpy (M 46) (M 46) 35 0 805)) 39 9 (nI 23) := by
        rw [e]
        show mu _ 39 9 (M 39 9 - 1) = _
        rw [es]
        rfl
      refine vr_know1 (s := 23) (by omega) (by rw [k1]; rfl) _ ?_
      rw [k1]
      have := mem_96 (M := M) (va_cpy (M 46) (M 46) 35 0 805) (va_cpy (M 44) (va_cpy (M 46) (M 46) 35 0 805) 0 (35 * 23) 35) (nI 23) (nI 24)
      show Φ (mu (ms (mu (ms M 46 (va_cpy (M 46) (M 46) 35 0 805)) 39 9 (nI 23)) 46 (va_cpy (M 44) (va_cpy (M 46) (M 46) 35 0 805) 0 (35 * 23) 35)) 39 9 (nI 24))
      rw [this]
      exact h
    · rintro q a ⟨j, hj, rfl⟩ rec hrec
      have ei : 35 + nI j = nI (35 + j) := nI8 35 rfl
      refine ⟨fun z => absurd z (nle 805 (by omega) (by omega)), fun _ => ?_⟩
      rw [ei]
      refine ⟨vp_in_nI (by omega) (by decide), vp_in_nI (by omega) (by decide), fun M4 e => hrec _ ⟨j + 1, by omega, ?_⟩⟩
      have e46 : ms M 46 (va_cpy (M 46) (M 46) 35 0 j) 46 (35 + j) = M 46 (35 + j) := by
        rw [ms_at, cpy_out _ _ (by omega)]
      rw [e, nI_clamp (by omega), nI_clamp (by omega), nI_inc, e46, mu_ms, ← cpy_s _ _ _ _ j, Nat.zero_add]
    · rw [cpy_0, ms_self]; rfl
  · have hs' : s < 24 := by omega
    rw [if_neg (by omega), show min 24 (s + 1) = s + 1 by omega] at h
    exact vr_know1 hs' es _ h
/-- the ACTS behind one more -/
theorem act_acts {kp f on sl bf v v' : Nat → Int32} {rg kd th : Nat → Int32} {sz nx ac th1 th2 : Int32} (hA : IActs sz nx ac th1 kp bf v) (hR : RelB f rg kd th on sl v) (hV : VB v) (hst : Stay v v') (h1 : th2 = 1) {p s : Nat} (ep : nx = nI p) (es : ac = nI s) (hp : p < 24) (hs : s ≤ 24) : IActs (nI (min 24 (s + 1))) (nI ((p + 1) % 24)) (nI (min 24 (s + 1))) th2 (kpF kp f on sl p) (bfF bf v s) v' := by
  obtain ⟨-, s1, p1, hs1, hp1, es1, ep1, -, hrec⟩ := hA
  have inj : ∀ {a b : Nat}, a < 100 → b < 100 → nI a = nI b → a = b := by
    intro a b ha hb e
    have := congrArg Int32.toInt e
    rw [nI_toInt (by omega), nI_toInt (by omega)] at this
    omega
  obtain rfl : s = s1 := inj (by omega) (by omega) (es.symm.trans es1)
  obtain rfl : p = p1 := inj (by omega) (by omega) (ep.symm.trans ep1)
  refine ⟨rfl, min 24 (s + 1), (p + 1) % 24, by omega, by omega, rfl, rfl, fun _ => h1, fun i hi => ?_⟩
  by_cases hlast : i + 1 = min 24 (s + 1)
  · have eix : ((p + 1) % 24 + 24 - min 24 (s + 1) + i) % 24 = p := by omega
    rw [eix]
    have eb : ∀ j, j < 35 → bfF bf v s (35 * i + j) = v j := by
      intro j hj
      unfold bfF
      by_cases h24 : s = 24
      · rw [if_pos h24, cpy_in _ _ (by omega) (by omega)]
        exact congrArg v (by omega)
      · rw [if_neg h24, cpy_in _ _ (by omega) (by omega)]
        exact congrArg v (by omega)
    have hC := hV.cb
    obtain ⟨⟨r1, r2, r3, r4, r5, r6, r7, r8⟩, -, hc, hsl⟩ := hR
    have base : Rec (fun j => kpF kp f on sl p (17 * p + j)) v v := by
      refine ⟨⟨?_, ?_, ?_, ?_, ?_⟩, fun j hj => ?_, fun j hj => ?_, fun j _ => rfl, hV⟩
      · show kpF kp f on sl p (17 * p + 0) = _
        unfold kpF
        rw [cpy_out _ _ (by omega), cpy_out _ _ (by omega), pk_un (by omega), pk_un (by omega), pk_un (by omega), pk_un (by omega)]
        exact pk_us.trans r4
      · show kpF kp f on sl p (17 * p + 1) = _
        unfold kpF
        rw [cpy_out _ _ (by omega), cpy_out _ _ (by omega), pk_un (by omega), pk_un (by omega), pk_un (by omega)]
        exact pk_us.trans r5
      · show kpF kp f on sl p (17 * p + 2) = _
        unfold kpF
        rw [cpy_out _ _ (by omega), cpy_out _ _ (by omega), pk_un (by omega), pk_un (by omega)]
        exact pk_us.trans r6
      · show kpF kp f on sl p (17 * p + 3) = _
        unfold kpF
        rw [cpy_out _ _ (by omega), cpy_out _ _ (by omega), pk_un (by omega)]
        exact pk_us.trans r7
      · show kpF kp f on sl p (17 * p + 4) = _
        unfold kpF
        rw [cpy_out _ _ (by omega), cpy_out _ _ (by omega)]
        exact pk_us.trans r8
      · show kpF kp f on sl p (17 * p + (5 + j)) = _
        unfold kpF
        have := hC.2.2
        rw [cpy_out _ _ (by omega), cpy_in _ _ (by omega) (by omega), show 0 + (17 * p + (5 + j) - (17 * p + 5)) = j by omega]
        exact hsl j hj
      · show kpF kp f on sl p (17 * p + (11 + j)) = _
        unfold kpF
        have := hC.2.1
        rw [cpy_in _ _ (by omega) (by omega), show 0 + (17 * p + (11 + j) - (17 * p + 11)) = j by omega]
        exact (hc j hj).2.2
    exact base.congr (fun j _ => rfl) eb hst
  · obtain ⟨i0, e0, h0⟩ : ∃ i0, i0 = (if s = 24 then i + 1 else i) ∧ i0 < s := ⟨_, rfl, by split <;> omega⟩
    have eix : ((p + 1) % 24 + 24 - min 24 (s + 1) + i) % 24 = (p + 24 - s + i0) % 24 := by
      rw [e0]; split <;> omega
    rw [eix]
    have hq : (p + 24 - s + i0) % 24 ≠ p := by
      split at e0 <;> omega
    refine (hrec i0 h0).congr (fun j hj => ?_) (fun j hj => ?_) hst
    · unfold kpF
      rw [cpy_out _ _ (by omega), cpy_out _ _ (by omega), pk_un (by omega), pk_un (by omega), pk_un (by omega), pk_un (by omega), pk_un (by omega)]
    · unfold bfF
      by_cases h24 : s = 24
      · rw [if_pos h24] at e0 ⊢
        rw [cpy_out _ _ (by omega), cpy_in _ _ (by omega) (by omega)]
        exact congrArg bf (by omega)
      · rw [if_neg h24] at e0 ⊢
        rw [cpy_out _ _ (by omega), e0]
theorem Inv.acts (hI : Inv M) : IActs (M 32 1) (M 32 2) (M 39 9) (M 39 5) (M 33) (M 46) (M 44) := hI.2.2.2.2.1
/-- there is no BIKE: alike -/
theorem Inv.there (hI : Inv M) : M 7 0 = M 39 5 := hI.bike.2.1
theorem Inv.vb (hI : Inv M) (h : ¬ M 39 5 = 0) : VB (M 44) ∧ M 39 5 = 1 := by
  rcases hI.bike.2.2 with ⟨e, h⟩ | ⟨e, -⟩
  · exact ⟨h, e⟩
  · exact absurd e h
theorem op_strength (hI : Inv M) : Op_strength Inv M := by
  intro x
  have eT := hI.there
  by_cases h0 : M 39 5 = 0
  · refine op_run (r := -1000002) (M1 := M) (M2 := M) (fun Φ h => ?_) ⟨rfl, rfl⟩ (fun Φ h => ?_) hI ⟨rfl, rfl⟩
    · exact ⟨fun _ => h, fun z => absurd (eT.trans h0) z⟩
    · exact ⟨fun _ => h, fun z => absurd h0 z⟩
  by_cases hw : wi x 1 99 = 0
  · refine op_run (r := -1000001) (M1 := M) (M2 := M) (fun Φ h => ?_) ⟨rfl, rfl⟩ (fun Φ h => ?_) hI ⟨rfl, rfl⟩
    · exact ⟨fun z => absurd (eT.symm.trans z) h0, fun _ => v_within M _ _ _ _ ⟨fun _ => h, fun z => absurd hw z⟩⟩
    · exact ⟨fun z => absurd z h0, fun _ => v_in M _ _ _ _ ⟨fun _ => h, fun z => absurd hw z⟩⟩
  have hb := wi_1 hw
  rw [show (1 : Int32).toInt = 1 by decide, show (99 : Int32).toInt = 99 by decide] at hb
  obtain ⟨hV, hT1⟩ := hI.vb h0
  obtain ⟨eac, s, p, hs, hp, es, ep, -, hrec⟩ := hI.acts
  have hR := hI.bike.1
  refine op_run (r := M 44 0) (M1 := mu (KM M p s) 7 4 x) (M2 := mu (RM (mu (KM M p s) 7 4 x) s) 44 0 x) (fun Φ h => ?_) ⟨rfl, rfl⟩ (fun Φ h => ?_) ?_ ⟨rfl, rfl⟩
  · refine ⟨fun z => absurd (eT.symm.trans z) h0, fun _ => v_within M _ _ _ _ ⟨fun z => absurd z hw, fun _ => v_keep hp hs ep (eac.trans es) _ (fun M5 e5 => ?_)⟩⟩
    rw [e5]
    have : KM M p s 7 4 = M 44 0 := hR.1.2.2.2.1
    rw [this]; exact h
  · refine ⟨fun z => absurd z h0, fun _ => v_in _ _ _ _ _ ⟨fun z => absurd z hw, fun _ => vr_know (M := mu (KM M p s) 7 4 x) hs es _ (fun M5 e5 => ?_)⟩⟩
    rw [e5]
    exact h
  · have hst : Stay (M 44) (upd (M 44) 0 x) := fun j hj => (pk_un (by omega)).symm
    refine ⟨hI.1, hI.2.1, hI.2.2.1, ?_, act_acts hI.acts hR hV hst hT1 ep es hp hs, hI.2.2.2.2.2⟩
    show IBike (upd (M 7) 4 x) (M 8) (M 9) (M 10) (M 11) (M 12) (upd (M 44) 0 x) (M 39 5)
    obtain ⟨⟨r1, r2, r3, r4, r5, r6, r7, r8⟩, hr, hc, hsl⟩ := hR
    have e8 : ∀ i, 8 ≤ i → upd (M 44) 0 x i = M 44 i := fun i hi => pk_un (by omega)
    refine ⟨⟨⟨r1, r2, r3, rfl, r5, r6, r7, r8⟩, fun i hi => ?_, fun i hi => ?_, fun i hi => ?_⟩, eT, Or.inl ⟨hT1, ?_⟩⟩
    · rw [e8 _ (by omega)]; exact hr i hi
    · rw [e8 _ (by omega), e8 _ (by omega), e8 _ (by omega)]; exact hc i hi
    · rw [e8 _ (by omega)]; exact hsl i hi
    · obtain ⟨⟨b1, b2, b3, b4, b5, b6, b7, b8⟩, vr, vc, vs⟩ := hV
      refine ⟨⟨b1, b2, b3, hb, b5, b6, b7, b8⟩, fun i hi => ?_, fun i hi => ?_, fun i hi => ?_⟩
      · rw [e8 _ (by omega)]; exact vr i hi
      · rw [e8 _ (by omega), e8 _ (by omega), e8 _ (by omega)]; exact vc i hi
      · rw [e8 _ (by omega)]; exact vs i hi
theorem op_slope (hI : Inv M) : Op_slope Inv M := by
  intro a x
  obtain ⟨c1, c2, c3⟩ := hI.bike.cb
  obtain ⟨⟨e1, e2, e3, e4, e5, e6, e7, e8⟩, hr, hc, hsl⟩ := hI.bike.1
  by_cases ha : wi a 0 (M 44 3 - 1) = 0
  · refine op_run (r := -1000001) (M1 := M) (M2 := M) (fun Φ h => ?_) ⟨rfl, rfl⟩ (fun Φ h => ?_) hI ⟨rfl, rfl⟩
    · exact v_hasPiece 7 M a _ ⟨fun _ => h, fun n => absurd (by rw [e3]; exact ha) n⟩
    · exact vr_isPiece M _ _ ⟨fun _ => h, fun n => absurd ha n⟩
  by_cases hw : wi x 0 9 = 0
  · refine op_run (r := -1000001) (M1 := M) (M2 := M) (fun Φ h => ?_) ⟨rfl, rfl⟩ (fun Φ h => ?_) hI ⟨rfl, rfl⟩
    · exact v_hasPiece 7 M a _ ⟨fun n => absurd n (by rw [e3]; exact ha), fun _ => v_within M _ _ _ _ ⟨fun _ => h, fun z => absurd hw z⟩⟩
    · exact vr_isPiece M _ _ ⟨fun n => absurd n ha, fun _ => v_in M _ _ _ _ ⟨fun _ => h, fun z => absurd hw z⟩⟩
  have hb := wi_1 hw
  rw [show (0 : Int32).toInt = 0 by decide, show (9 : Int32).toInt = 9 by decide] at hb
  obtain ⟨i, rfl, hi⟩ := wi_nI c3.1 ha
  have hi6 : i < 6 := by omega
  have hV := hI.bike.good (Or.inr (Or.inr (Or.inl (by omega))))
  have hT1 : M 39 5 = 1 := by
    rcases hI.bike.2.2 with ⟨e, -⟩ | ⟨-, h⟩
    · exact e
    · have z := h 3 (by decide); rw [z, show (0 : Int32).toInt = 0 by decide] at hi; omega
  have h0 : ¬ M 39 5 = 0 := by rw [hT1]; decide
  obtain ⟨eac, s, p, hs, hp, es, ep, -, hrec⟩ := hI.acts
  have e23 : (23 : Int32) + nI i = nI (23 + i) := nI8 23 rfl
  refine op_run (r := M 44 (23 + i)) (M1 := mu (KM M p s) 12 i x) (M2 := mu (RM (mu (KM M p s) 12 i x) s) 44 (23 + i) x) (fun Φ h => ?_) ⟨rfl, rfl⟩ (fun Φ h => ?_) ?_ ⟨rfl, rfl⟩
  · refine v_hasPiece 7 M _ _ ⟨fun n => absurd n (by rw [e3]; exact ha), fun _ => v_within M _ _ _ _ ⟨fun z => absurd z hw, fun _ => v_keep hp hs ep (eac.trans es) _ ?_⟩⟩
    rw [nI_clamp (by omega)]
    refine ⟨vp_in_nI hi6 (by decide), vp_in_nI hi6 (by decide), fun M5 e5 => ?_⟩
    rw [e5]
    have : KM M p s 12 i = M 44 (23 + i) := hsl i hi
    rw [this]; exact h
  · refine vr_isPiece _ _ _ ⟨fun n => absurd n ha, fun _ => v_in _ _ _ _ _ ⟨fun z => absurd z hw, fun _ => vr_know (M := mu (KM M p s) 12 i x) hs es _ ?_⟩⟩
    rw [e23, nI_clamp (by omega)]
    refine ⟨vp_in_nI (by omega) (by decide), vp_in_nI (by omega) (by decide), fun M5 e5 => ?_⟩
    rw [e5]
    exact h
  · have hst : Stay (M 44) (upd (M 44) (23 + i) x) := fun j hj => (pk_un (by omega)).symm
    refine ⟨hI.1, hI.2.1, hI.2.2.1, ?_, act_acts hI.acts hI.bike.1 hV hst hT1 ep es hp hs, hI.2.2.2.2.2⟩
    show IBike (M 7) (M 8) (M 9) (M 10) (M 11) (upd (M 12) i x) (upd (M 44) (23 + i) x) (M 39 5)
    have eo : ∀ j, ¬ j = 23 + i → upd (M 44) (23 + i) x j = M 44 j := fun j hj => pk_un hj
    have q0 := eo 0 (by omega); have q1 := eo 1 (by omega); have q2 := eo 2 (by omega); have q3 := eo 3 (by omega)
    have q4 := eo 4 (by omega); have q5 := eo 5 (by omega); have q6 := eo 6 (by omega); have q7 := eo 7 (by omega)
    obtain ⟨⟨b1, b2, b3, b4, b5, b6, b7, b8⟩, vr, vc, vs⟩ := hV
    unfold IBike RelB VB
    rw [q0, q1, q2, q3, q4, q5, q6, q7]
    refine ⟨⟨⟨e1, e2, e3, e4, e5, e6, e7, e8⟩, fun j hj => ?_, fun j hj => ?_, fun j hj => ?_⟩, hI.there, Or.inl ⟨hT1, ⟨b1, b2, b3, b4, b5, b6, b7, b8⟩, fun j hj => ?_, fun j hj => ?_, fun j hj => ?_⟩⟩
    · rw [eo _ (by omega)]; exact hr j hj
    · rw [eo _ (by omega), eo _ (by omega), eo _ (by omega)]; exact hc j hj
    · by_cases h : j = i
      · subst h; rw [pk_us, pk_us]
      · rw [eo _ (by omega), pk_un h]; exact hsl j hj
    · rw [eo _ (by omega)]; exact vr j hj
    · rw [eo _ (by omega), eo _ (by omega), eo _ (by omega)]; exact vc j hj
    · by_cases h : j = i
      · subst h; rw [pk_us]; exact hb
      · rw [eo _ (by omega)]; exact vs j hj
/-- what is taken back -/
def TB (M : Mm) (p s : Nat) : Mm := ms (ms (mu (mu (mu (mu (mu (mu (mu M 32 2 (nI p)) 32 1 (nI s)) 7 4 (M 33 (17 * p))) 7 5 (M 33 (17 * p + 1))) 7 6 (M 33 (17 * p + 2))) 7 7 (M 33 (17 * p + 3))) 7 8 (M 33 (17 * p + 4))) 12 (va_cpy (M 33) (M 12) (17 * p + 5) 0 6)) 11 (va_cpy (M 33) (M 11) (17 * p + 11) 0 6)
theorem v_takeBack {p s : Nat} (hp : p < 24) (hs : s < 24) (ep : M 32 2 = nI p) (es : M 32 1 = nI (s + 1)) : RunV (S_Acts_takeBack M) (TB M ((p + 23) % 24) s) := by
  intro Φ h
  have k1 : irm ((M 32 2 + 24) - 1) 24 = nI ((p + 23) % 24) := by
    rw [ep, show nI p + 24 = nI (p + 24) from nI_add p 24, show nI (p + 24) - 1 = nI (p + 23) from pk_sub (a := p + 24) (b := 1) (by omega)]
    exact mod24 (by omega)
  have k2 : M 32 1 - 1 = nI s := by rw [es]; exact pk_sub (a := s + 1) (b := 1) (by omega)
  generalize hpp : (p + 23) % 24 = p' at *
  have hp' : p' < 24 := by omega
  intro M1 q1 M2 q2
  have ep' : M2 32 2 = nI p' := by rw [q2, q1, k1]; rfl
  have e0 : M2 32 2 * 17 + 0 = nI (17 * p') := by rw [ep']; exact ix17 p' 0
  have e1 : M2 32 2 * 17 + 1 = nI (17 * p' + 1) := by rw [ep']; exact ix17 p' 1
  have e2 : M2 32 2 * 17 + 2 = nI (17 * p' + 2) := by rw [ep']; exact ix17 p' 2
  have e3 : M2 32 2 * 17 + 3 = nI (17 * p' + 3) := by rw [ep']; exact ix17 p' 3
  have e4 : M2 32 2 * 17 + 4 = nI (17 * p' + 4) := by rw [ep']; exact ix17 p' 4
  have e5 : M2 32 2 * 17 + 5 = nI (17 * p' + 5) := by rw [ep']; exact ix17 p' 5
  have e11 : M2 32 2 * 17 + 11 = nI (17 * p' + 11) := by rw [ep']; exact ix17 p' 11
  have k3 : M2 = mu (mu M 32 2 (nI p')) 32 1 (nI s) := by
    rw [q2, q1, k1]
    show mu (mu M 32 2 (nI p')) 32 1 (M 32 1 - 1) = _
    rw [k2]
  rw [e0, e1, e2, e3, e4, e5, e11, nI_clamp (n := 17 * p') (by omega), nI_clamp (n := 17 * p' + 1) (by omega), nI_clamp (n := 17 * p' + 2) (by omega), nI_clamp (n := 17 * p' + 3) (by omega), nI_clamp (n := 17 * p' + 4) (by omega), nI_clamp (n := 17 * p' + 5) (by omega), nI_clamp (n := 17 * p' + 11) (by omega)]
  refine ⟨vp_in_nI (by omega) (by decide), fun M3 q3 => ⟨vp_in_nI (by omega) (by decide), fun M4 q4 => ⟨vp_in_nI (by omega) (by decide), fun M5 q5 => ⟨vp_in_nI (by omega) (by decide), fun M6 q6 => ⟨vp_in_nI (by omega) (by decide), fun M7 q7 => ⟨cpOk_nI (b := 0) (n := 6) rfl rfl rfl (by omega) (by omega) (by decide) (by decide), fun M8 q8 => ⟨cpOk_nI (b := 0) (n := 6) rfl rfl rfl (by omega) (by omega) (by decide) (by decide), fun M9 q9 => ?_⟩⟩⟩⟩⟩⟩⟩
  rw [q9, q8, q7, q6, q5, q4, q3, k3]
  exact h
theorem vr_undoLoop {s : Nat} (hs : s < 24) (es : M 39 9 = nI s) : Run (fun Φ => ∃ n, lp (D_R_undo_22 Φ) n (0, M)) (nI s) (ms M 44 (va_cpy (M 46) (M 44) (35 * s) 0 35)) := by
  intro Φ h
  refine lp_ex (fun q (a : Int32 × Mm) => ∃ j, j + q = 35 ∧ a = (nI j, ms M 44 (va_cpy (M 46) (M 44) (35 * s) 0 j))) ?_ ?_ (i := 35) ⟨0, by omega, ?_⟩
  · rintro a ⟨j, hj, rfl⟩ rec
    obtain rfl : j = 35 := by omega
    refine ⟨fun _ => ?_, fun z => absurd (by decide) z⟩
    show Φ (M 39 9) _
    rw [es]; exact h
  · rintro q a ⟨j, hj, rfl⟩ rec hrec
    have ei : 35 * M 39 9 + nI j = nI (35 * s + j) := by rw [es]; exact ix35 s j
    refine ⟨fun z => absurd z (nle 35 (by omega) (by omega)), fun _ => ?_⟩
    show vp_in (35 * M 39 9 + nI j) _ ∧ vp_in _ _ ∧ ∀ M4, M4 = mu _ 44 _ (M 46 (Int32.toNatClampNeg (35 * M 39 9 + nI j))) → _
    rw [ei]
    refine ⟨vp_in_nI (by omega) (by decide), vp_in_nI (by omega) (by decide), fun M4 e => hrec _ ⟨j + 1, by omega, ?_⟩⟩
    rw [e, nI_clamp (by omega), nI_clamp (by omega), nI_inc, mu_ms, ← cpy_s _ _ _ _ j, Nat.zero_add]
  · rw [cpy_0, ms_self]; rfl
theorem op_undo (hI : Inv M) : Op_undo Inv M := by
  obtain ⟨eac, s, p, hs, hp, es, ep, hth, hrec⟩ := hI.acts
  by_cases h0 : M 39 9 = 0
  · refine op_run (r := -1000002) (M1 := M) (M2 := M) (fun Φ h => ?_) ⟨rfl, rfl⟩ (fun Φ h => ?_) hI ⟨rfl, rfl⟩
    · exact ⟨fun _ => h, fun z => absurd (eac.trans h0) z⟩
    · exact ⟨fun _ => h, fun z => absurd h0 z⟩
  obtain _ | s := s
  · exact absurd es h0
  have hT1 := hth (by omega)
  obtain ⟨⟨e1, e2, e3, e4, e5, e6, e7, e8⟩, hr, hc, hsl⟩ := hI.bike.1
  have eix : (p + 24 - (s + 1) + s) % 24 = (p + 23) % 24 := by omega
  have hR0 := hrec s (by omega)
  rw [eix] at hR0
  have k2 : M 39 9 - 1 = nI s := by rw [es]; exact pk_sub (a := s + 1) (b := 1) (by omega)
  generalize hpp : (p + 23) % 24 = p' at *
  refine op_run (r := nI s) (M1 := TB M p' s) (M2 := ms (mu (TB M p' s) 39 9 (nI s)) 44 (va_cpy (M 46) (M 44) (35 * s) 0 35)) (fun Φ h => ?_) ⟨rfl, rfl⟩ (fun Φ h => ?_) ?_ ⟨rfl, rfl⟩
  · refine ⟨fun z => absurd (eac.symm.trans z) h0, fun _ => ?_⟩
    have := v_takeBack hp (by omega) ep (eac.trans es)
    rw [hpp] at this
    exact this _ h
  · refine ⟨fun z => absurd z h0, fun _ => fun M2 q2 => ?_⟩
    have k3 : M2 = mu (TB M p' s) 39 9 (nI s) := by
      rw [q2]
      show mu (TB M p' s) 39 9 (M 39 9 - 1) = _
      rw [k2]
    rw [k3]
    exact vr_undoLoop (M := mu (TB M p' s) 39 9 (nI s)) (by omega) rfl _ h
  · have eb : ∀ j, j < 35 → va_cpy (M 46) (M 44) (35 * s) 0 35 j = M 46 (35 * s + j) := fun j hj => by
      rw [cpy_in _ _ (by omega) (by omega)]; rfl
    obtain ⟨⟨g1, g2, g3, g4, g5⟩, gs, gt, gst, gV⟩ := hR0
    have hst : Stay (M 44) (va_cpy (M 46) (M 44) (35 * s) 0 35) := fun j hj => by
      rw [eb j (by omega)]; exact (gst j hj).symm
    have sV : VB (va_cpy (M 46) (M 44) (35 * s) 0 35) := gV.congr eb
    have q1 := hst 1 (by omega); have q2 := hst 2 (by omega); have q3 := hst 3 (by omega)
    have hC := sV.cb
    refine ⟨hI.1, hI.2.1, hI.2.2.1, ?_, ?_, hI.2.2.2.2.2⟩
    · refine ⟨⟨⟨e1.trans q1, e2.trans q2, e3.trans q3, ?_, ?_, ?_, ?_, ?_⟩, fun j hj => ?_, fun j hj => ?_, fun j hj => ?_⟩, hI.there, Or.inl ⟨hT1, sV⟩⟩
      · exact g1.trans (eb 0 (by decide)).symm
      · exact g2.trans (eb 4 (by decide)).symm
      · exact g3.trans (eb 5 (by decide)).symm
      · exact g4.trans (eb 6 (by decide)).symm
      · exact g5.trans (eb 7 (by decide)).symm
      · have hj : (j : Int) < (va_cpy (M 46) (M 44) (35 * s) 0 35 1).toInt := hj
        have b1 := hC.1
        have hj' := hj
        rw [← q1] at hj'
        exact (hr j hj').trans (hst (8 + j) (by omega))
      · have hj : (j : Int) < (va_cpy (M 46) (M 44) (35 * s) 0 35 2).toInt := hj
        have b1 := hC.2.1
        have hj' := hj
        rw [← q2] at hj'
        refine ⟨(hc j hj').1.trans (hst (11 + j) (by omega)), (hc j hj').2.1.trans (hst (17 + j) (by omega)), ?_⟩
        show va_cpy (M 33) (M 11) (17 * p' + 11) 0 6 j = va_cpy (M 46) (M 44) (35 * s) 0 35 (29 + j)
        rw [cpy_in _ _ (by omega) (by omega), eb _ (by omega)]
        rw [show 17 * p' + 11 + (j - 0) = 17 * p' + (11 + j) by omega]
        exact gt j hj'
      · have hj : (j : Int) < (va_cpy (M 46) (M 44) (35 * s) 0 35 3).toInt := hj
        have b1 := hC.2.2
        have hj' := hj
        rw [← q3] at hj'
        show va_cpy (M 33) (M 12) (17 * p' + 5) 0 6 j = va_cpy (M 46) (M 44) (35 * s) 0 35 (23 + j)
        rw [cpy_in _ _ (by omega) (by omega), eb _ (by omega)]
        rw [show 17 * p' + 5 + (j - 0) = 17 * p' + (5 + j) by omega]
        exact gs j hj'
    · refine ⟨rfl, s, p', by omega, by omega, rfl, rfl, fun _ => hT1, fun i hi => ?_⟩
      have eix2 : (p' + 24 - s + i) % 24 = (p + 24 - (s + 1) + i) % 24 := by omega
      rw [eix2]
      exact (hrec i (by omega)).congr (fun j _ => rfl) (fun j _ => rfl) hst
end Acts
