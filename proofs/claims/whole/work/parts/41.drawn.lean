/-! drawn, whole -/
theorem mcp_ne (M : Mm) {k0 k1 sp dp n j : Nat} (h : ¬ j = k1) : mcp M k0 k1 sp dp n j = M j := by unfold mcp ms; rw [if_neg h]
theorem tf1_ne (M : Mm) {k q i j : Nat} (h : ¬ j = k) : tf1 k q i M j = M j := by unfold tf1; exact mu_ne _ _ _ h
theorem TF_out (M : Mm) (k q : Nat) {j : Nat} (h : ¬ (k ≤ j ∧ j ≤ k + 5)) : TF k q M j = M j := by
  unfold TF
  rw [mcp_ne _ (by omega), mcp_ne _ (by omega), mcp_ne _ (by omega), mcp_ne _ (by omega), mcp_ne _ (by omega)]
  rw [tf1_ne _ (by omega), tf1_ne _ (by omega), tf1_ne _ (by omega), tf1_ne _ (by omega), tf1_ne _ (by omega), tf1_ne _ (by omega), tf1_ne _ (by omega), tf1_ne _ (by omega), tf1_ne _ (by omega)]
/-- both answer alike, whatever they leave in what isn't kept -/
theorem op_any {M : Mm} {S : (Int32 → Mm → Prop) → Prop} {SR : Mm → (Int32 → Mm → Prop) → Prop} {r : Int32} (P Q : Mm → Prop) (h : ∀ Φ : Int32 → Mm → Prop, (∀ M1, P M1 → Φ r M1) → S Φ) (hP : ∀ M1, P M1 → Keep M M1) (hR : ∀ M1, P M1 → ∀ Ψ : Int32 → Mm → Prop, (∀ M2, Q M2 → Ψ r M2) → SR M1 Ψ) (hQ : ∀ M2, Q M2 → Inv M2 ∧ Keep M M2) : Op Inv M S SR :=
  fun Φ k => h Φ (fun M1 p => k r M1 (hP M1 p) (fun Ψ hΨ => hR M1 p Ψ (fun M2 q => hΨ M2 (hQ M2 q).1 (hQ M2 q).2)))
theorem Inv.outK {M : Mm} (hI : Inv M) : ∀ M2 : Mm, (∀ j, Out j → M2 j = M j) → Inv M2 ∧ Keep M M2 := fun M2 q => ⟨hI.out q, q 63 (by unfold Out; omega), q 64 (by unfold Out; omega)⟩
theorem kd_0 {M : Mm} {w : Nat → Int32} (hR : RelB (M 7) (M 8) (M 9) (M 10) (M 11) (M 12) (M 44)) (hV : VB (M 44)) (hw : ∀ j, j < 35 → w j = M 44 j) : KD M (mu (TF 13 7 M) 13 8 0) w 0 := by
  have hc := relB_copy (f' := TF 13 7 M 13) (v' := M 44) hR hV ⟨rfl, rfl, rfl, rfl, rfl, rfl, rfl, rfl⟩ (cpy00 (M 8) (M 14) (n := 3)) (cpy00 (M 9) (M 15) (n := 6)) (cpy00 (M 10) (M 16) (n := 6)) (cpy00 (M 11) (M 17) (n := 6)) (cpy00 (M 12) (M 18) (n := 6)) (fun j _ => rfl)
  obtain ⟨⟨r1, r2, r3, r4, r5, r6, r7, r8⟩, -, hcc, hsl⟩ := id hc.1
  obtain ⟨⟨a1, a2, a3, a4, a5, a6, a7, a8⟩, -, vc, -⟩ := id hV
  have hm := moved_bike (f' := upd (TF 13 7 M 13) 8 0) (v' := upd (M 44) 7 0) (on' := va_cpy (M 11) (M 17) 0 0 6) hc.1 hV ?_ ?_ ?_ ?_ ?_ ?_ ?_ ?_ ?_ ?_ ?_
  · refine ⟨upd (M 44) 7 0, fun j hj => ?_, hm.1, hm.2.1, fun i hi h7 => ?_, pk_us⟩
    · rw [mu_ne _ _ _ (by omega), TF_out _ _ _ (by omega)]
    · rw [pk_un h7, hw i (by omega)]
  · intro i h1 h4
    rw [pk_un (by omega)]
  · rw [pk_un (by decide), pk_un (by decide)]; exact r5
  · rw [pk_un (by decide), pk_un (by decide)]; exact r6
  · rw [pk_un (by decide), pk_un (by decide)]; exact r7
  · rw [pk_us, pk_us]
  · intro i hi
    rw [pk_un (by omega)]
  · intro i hi
    rw [pk_un (by omega)]
    exact ⟨(hcc i hi).2.2, (vc i hi).2.2⟩
  · rw [pk_un (by decide)]; exact a5
  · rw [pk_un (by decide)]; exact a6
  · rw [pk_un (by decide)]; exact a7
  · rw [pk_us]; exact ⟨by decide, by decide⟩
theorem op_drawn {M : Mm} (hI : Inv M) : Op_drawn Inv M := by
  intro a x c
  have eT := hI.there
  by_cases h0 : M 39 5 = 0
  · exact op_run (r := -1000002) (M1 := M) (M2 := M) (fun Φ h => ht (eT.trans h0) h) ⟨rfl, rfl⟩ (fun Φ h => ht h0 h) hI ⟨rfl, rfl⟩
  have h70 : ¬ M 7 0 = 0 := fun z => h0 (eT.symm.trans z)
  by_cases ha : wi a 0 60 = 0
  · exact op_run (r := -1000001) (M1 := M) (M2 := M) (fun Φ h => sk h70 (v_within M _ _ _ _ (ht ha h))) ⟨rfl, rfl⟩ (fun Φ h => sk h0 (v_in M _ _ _ _ (ht ha h))) hI ⟨rfl, rfl⟩
  by_cases hx : wi x 1 999999 = 0
  · exact op_run (r := -1000001) (M1 := M) (M2 := M) (fun Φ h => sk h70 (v_within M _ _ _ _ (sk ha (v_within M _ _ _ _ (ht hx h))))) ⟨rfl, rfl⟩ (fun Φ h => sk h0 (v_in M _ _ _ _ (sk ha (v_in M _ _ _ _ (ht hx h))))) hI ⟨rfl, rfl⟩
  by_cases hc : wi c 0 1 = 0
  · exact op_run (r := -1000001) (M1 := M) (M2 := M) (fun Φ h => sk h70 (v_within M _ _ _ _ (sk ha (v_within M _ _ _ _ (sk hx (v_within M _ _ _ _ (ht hc h))))))) ⟨rfl, rfl⟩ (fun Φ h => sk h0 (v_in M _ _ _ _ (sk ha (v_in M _ _ _ _ (sk hx (v_in M _ _ _ _ (ht hc h))))))) hI ⟨rfl, rfl⟩
  obtain ⟨hV, hT1⟩ := hI.vb h0
  have hR := hI.bike.1
  have hb := wi_1 ha
  rw [show (0 : Int32).toInt = 0 by decide, show (60 : Int32).toInt = 60 by decide] at hb
  obtain ⟨n, rfl, en⟩ := ix_nI hb.1
  have hxb := wi_1 hx
  rw [show (1 : Int32).toInt = 1 by decide, show (999999 : Int32).toInt = 999999 by decide] at hxb
  have ex : (Int32.toInt64 x).toInt = x.toInt := Int32.toInt_toInt64 x
  obtain ⟨w, ew⟩ : ∃ w, w = va_cpy (M 44) (M 45) 0 0 35 := ⟨_, rfl⟩
  have hw : ∀ j, j < 35 → w j = M 44 j := fun j hj => by rw [ew]; exact cpy00 (M 44) (M 45) j hj
  have hVw : VB w := hV.congr hw
  have x0 : 0 ≤ (Int32.toInt64 x).toInt := by omega
  have x1 : (Int32.toInt64 x).toInt ≤ 2147483646 := by omega
  have hK := kd_0 hR hV hw
  have hn : n ≤ 60 := by omega
  refine op_any (r := if c = 0 then tS (Int32.toInt64 x) w n else nS (Int32.toInt64 x) w n) (fun M1 => ∀ j, ¬ (13 ≤ j ∧ j ≤ 18) → M1 j = M j) (fun M2 => ∀ j, Out j → M2 j = M j) (fun Φ h => ?_) (fun M1 p => ⟨p 63 (by omega), p 64 (by omega)⟩) (fun M1 p Ψ h => ?_) hI.outK
  · refine sk h70 (v_within M _ _ _ _ (sk ha (v_within M _ _ _ _ (sk hx (v_within M _ _ _ _ (sk hc (v_takeFrom 13 7 hI.there01 _ (fun M9 e9 => ?_))))))))
    rw [e9]
    exact v_drawn x0 x1 hVw hn c hK Φ h
  · have p39 := p 39 (by omega)
    have p44 := p 44 (by omega)
    have p45 := p 45 (by omega)
    refine sk (by rw [p39]; exact h0) (v_in M1 _ _ _ _ (sk ha (v_in M1 _ _ _ _ (sk hx (v_in M1 _ _ _ _ (sk hc (vr_take _ ?_)))))))
    rw [p44, p45, ← ew]
    refine vr_drawn (M := M1) x0 x1 hVw hn c Ψ (fun F => h _ (fun j hj => ?_))
    unfold Out at hj
    unfold ms
    rw [if_neg (by omega)]
    exact p j (by omega)
