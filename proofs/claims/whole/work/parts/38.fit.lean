/-! fits, whole -/
theorem tlv_it (w : Nat → Int32) (r c p : Nat) {it it' : Nat → Int32} {n : Nat} (h : ∀ j, j < n → it j = it' j) : tlv w r c p it n = tlv w r c p it' n := by
  unfold tlv
  by_cases z : ∀ j, j < n → it j = tav w r c p j
  · rw [if_pos z, if_pos (fun j hj => (h j hj).symm.trans (z j hj))]
  · rw [if_neg z, if_neg (fun y => z (fun j hj => (h j hj).trans (y j hj)))]
theorem five {a : Int32} (h : ¬ wi a 0 4 = 0) : a = 0 ∨ a = 1 ∨ a = 2 ∨ a = 3 ∨ a = 4 := by
  have hb := wi_1 h
  rw [show (0 : Int32).toInt = 0 by decide, show (4 : Int32).toInt = 4 by decide] at hb
  rw [tI_eq, tI_eq, tI_eq, tI_eq, tI_eq, show (0 : Int32).toInt = 0 by decide, show (1 : Int32).toInt = 1 by decide, show (2 : Int32).toInt = 2 by decide, show (3 : Int32).toInt = 3 by decide, show (4 : Int32).toInt = 4 by decide]
  omega
section Fit
variable {M : Mm}
theorem op_fits (hI : Inv M) : Op_fits Inv M := by
  intro a i n w
  have eT := hI.there
  have e0 : (0 : Int32).toInt = 0 := by decide
  have e1 : (1 : Int32).toInt = 1 := by decide
  have e6 : (6 : Int32).toInt = 6 := by decide
  by_cases ha : wi a 0 7 = 0
  · refine op_run (r := -1000001) (M1 := M) (M2 := M) (fun Φ h => ?_) ⟨rfl, rfl⟩ (fun Φ h => ?_) hI ⟨rfl, rfl⟩
    · exact v_isRow M a _ (ht ha h)
    · exact vr_isRow M a _ (ht ha h)
  by_cases hn : wi n 1 6 = 0
  · refine op_run (r := -1000001) (M1 := M) (M2 := M) (fun Φ h => ?_) ⟨rfl, rfl⟩ (fun Φ h => ?_) hI ⟨rfl, rfl⟩
    · exact v_isRow M a _ (sk ha (v_within M _ _ _ _ (ht hn h)))
    · exact vr_isRow M a _ (sk ha (v_in M _ _ _ _ (ht hn h)))
  by_cases hw : wi w 0 4 = 0
  · refine op_run (r := -1000001) (M1 := M) (M2 := M) (fun Φ h => ?_) ⟨rfl, rfl⟩ (fun Φ h => ?_) hI ⟨rfl, rfl⟩
    · exact v_isRow M a _ (sk ha (v_within M _ _ _ _ (sk hn (v_within M _ _ _ _ (ht hw h)))))
    · exact vr_isRow M a _ (sk ha (v_in M _ _ _ _ (sk hn (v_in M _ _ _ _ (ht hw h)))))
  by_cases h0 : M 39 5 = 0
  · refine op_run (r := -1000002) (M1 := M) (M2 := M) (fun Φ h => ?_) ⟨rfl, rfl⟩ (fun Φ h => ?_) hI ⟨rfl, rfl⟩
    · exact v_isRow M a _ (sk ha (v_within M _ _ _ _ (sk hn (v_within M _ _ _ _ (sk hw (ht (eT.trans h0) h))))))
    · exact vr_isRow M a _ (sk ha (v_in M _ _ _ _ (sk hn (v_in M _ _ _ _ (sk hw (ht h0 h))))))
  have h70 : ¬ M 7 0 = 0 := fun z => h0 (eT.symm.trans z)
  obtain ⟨row, rfl, hrow⟩ := row_nI ha
  obtain ⟨p1, p2, p3, p4, p5⟩ := hI.1.2 row hrow
  obtain ⟨na1, na2⟩ := lane_neg p3.1
  by_cases hm : M 40 row = -1
  · refine op_run (r := (-1000010) - 1) (M1 := mu M 0 8 1) (M2 := mu (mu M 0 8 1) 39 3 1) (fun Φ h => ?_) ⟨rfl, rfl⟩ (fun Φ h => ?_) (hI.find 1) ⟨rfl, rfl⟩
    · refine v_isRow M _ _ (sk ha (v_within M _ _ _ _ (sk hn (v_within M _ _ _ _ (sk hw (sk h70 (v_isMissing hrow _ (sk ?_ (fun M1 e => by rw [e]; exact h)))))))))
      unfold msv; rw [p1, if_pos hm]; decide
    · refine vr_isRow _ _ _ (sk ha (v_in _ _ _ _ _ (sk hn (v_in _ _ _ _ _ (sk hw (sk h0 ?_))))))
      rw [nI_clamp (by omega)]
      exact ⟨vp_in_nI hrow (by decide), sk (na1.mp hm) (fun M1 e => by rw [e]; exact h)⟩
  have hms : msv (M 2) row = 0 := by unfold msv; rw [p1, if_neg hm]
  have hl0 : 0 ≤ M 40 row := Classical.byContradiction fun z => hm (na1.mpr z)
  by_cases hpl : rcv (M 41 row) i n = 0
  · refine op_run (r := (-1000010) - 2) (M1 := mu M 0 8 2) (M2 := mu (mu M 0 8 2) 39 3 2) (fun Φ h => ?_) ⟨rfl, rfl⟩ (fun Φ h => ?_) (hI.find 2) ⟨rfl, rfl⟩
    · exact v_isRow M _ _ (sk ha (v_within M _ _ _ _ (sk hn (v_within M _ _ _ _ (sk hw (sk h70 (v_isMissing hrow _ (ht hms (v_reaches hrow (by rw [p2]; exact p4) _ _ _ (ht (by rw [p2]; exact hpl) (fun M1 e => by rw [e]; exact h)))))))))))
    · refine vr_isRow _ _ _ (sk ha (v_in _ _ _ _ _ (sk hn (v_in _ _ _ _ _ (sk hw (sk h0 ?_))))))
      rw [nI_clamp (by omega)]
      exact ⟨vp_in_nI hrow (by decide), ht hl0 (vr_areIn (M := mu M 0 8 2) hrow p4 _ _ _ (ht hpl (fun M1 e => by rw [e]; exact h)))⟩
  have ra := rcv_1 hpl
  have hnb := wi_1 hn
  rw [e1, e6] at hnb
  obtain ⟨i, rfl, ei⟩ := ix_nI ra.1
  obtain ⟨n, rfl, en⟩ := ix_nI ra.2.1
  have hin : i + n ≤ 40 := by omega
  have hn6 : n ≤ 6 := by omega
  obtain ⟨hV, hT1⟩ := hI.vb h0
  have hR := hI.bike.1
  obtain ⟨⟨r1, r2, r3, r4, r5, r6, r7, r8⟩, -, hcc, hsl⟩ := id hR
  obtain ⟨⟨a1, a2, a3, a4, a5, a6, a7, a8⟩, -, vc, -⟩ := id hV
  obtain ⟨hg, r, c, hr, hc, hr3, hc6, er, ec, ev4, ev5⟩ := gear_now hV (a := 6 * M 44 4 + M 44 5) rfl
  obtain ⟨p, ep, hp⟩ := ix_nI (b := M 44 6) (by omega)
  have e76 : M 7 6 = nI c := r6.trans ev5
  have hit : ∀ j, j < n → M 4 (40 * row + i + j) = M 42 (40 * row + i + j) := fun j hj => by
    have := p5 (i + j) (by omega)
    rw [Nat.add_assoc]; exact this
  have ek : M 9 c = M 44 (11 + c) := (hcc c hc).1
  have et : M 10 c = M 44 (17 + c) := (hcc c hc).2.1
  -- class and reference, up to the values that are tried
  have cls : ∀ (w : Int32) (Φ : Int32 → Mm → Prop), ¬ wi w 0 4 = 0 → ((w = 0 → S_sortsThatFit M (nI (40 * row + i)) (nI n) (fun r14 => S_unfound M r14 (fun r15 M15 => Φ r15 M15))) ∧ (¬ (w = 0) → ((w = 1 → ((w = 2 → D_fits_144 Φ (1, nI n, nI (40 * row + i), M)) ∧ (¬ (w = 2) → D_fits_144 Φ (0, nI n, nI (40 * row + i), M)))) ∧ (¬ (w = 1) → ((w = 2 → ((w = 2 → D_fits_144 Φ (1, nI n, nI (40 * row + i), M)) ∧ (¬ (w = 2) → D_fits_144 Φ (0, nI n, nI (40 * row + i), M)))) ∧ (¬ (w = 2) → ((w = 4 → D_fits_167 Φ (1, nI n, nI (40 * row + i), M)) ∧ (¬ (w = 4) → D_fits_167 Φ (0, nI n, nI (40 * row + i), M))))))))) → S_fits M (nI row) (nI i) (nI n) w Φ := by
    intro w Φ hw h
    refine v_isRow M _ _ (sk ha (v_within M _ _ _ _ (sk hn (v_within M _ _ _ _ (sk hw (sk h70 (v_isMissing hrow _ (ht hms (v_reaches hrow (by rw [p2]; exact p4) _ _ _ (sk (by rw [p2]; exact hpl) ?_))))))))))
    unfold S_Rows_placeOf
    rw [(place_nI row i).1]
    exact h
  have rfc : ∀ (w : Int32) (Φ : Int32 → Mm → Prop), ¬ wi w 0 4 = 0 → ((w = 0 → D_R_fits_92 Φ (nI row, nI i, nI n, w, 1, mu M 0 8 0)) ∧ (¬ (w = 0) → ((3 ≤ w → D_R_fits_92 Φ (nI row, nI i, nI n, w, 1, mu M 0 8 0)) ∧ (¬ (3 ≤ w) → D_R_fits_92 Φ (nI row, nI i, nI n, w, 10, mu M 0 8 0))))) → S_R_fits (mu M 0 8 0) (nI row) (nI i) (nI n) w Φ := by
    intro w Φ hw h
    refine vr_isRow _ _ _ (sk ha (v_in _ _ _ _ _ (sk hn (v_in _ _ _ _ _ (sk hw (sk h0 ?_))))))
    rw [nI_clamp (n := row) (by omega)]
    exact ⟨vp_in_nI hrow (by decide), ht hl0 (vr_areIn (M := mu M 0 8 0) hrow p4 _ _ _ (sk hpl h))⟩
  have fin : ∀ (w val : Int32), Run (fun Φ => S_fits M (nI row) (nI i) (nI n) w Φ) val (mu M 0 8 0) → (∀ Ψ : Int32 → Mm → Prop, (∀ F, Ψ val (mu (ms (mu M 0 8 0) 45 F) 39 3 0)) → S_R_fits (mu M 0 8 0) (nI row) (nI i) (nI n) w Ψ) → Op Inv M (fun Φ => S_fits M (nI row) (nI i) (nI n) w Φ) (fun M1 Ψ => S_R_fits M1 (nI row) (nI i) (nI n) w Ψ) := fun w val hc hr => op_runF (M2 := fun F => mu (ms (mu M 0 8 0) 45 F) 39 3 0) hc ⟨rfl, rfl⟩ hr (fun F => hI.find 0) (fun F => ⟨rfl, rfl⟩)
  have e5' : (11 : Int32) + mu M 0 8 0 44 (Int32.toNatClampNeg 5) = nI (11 + c) := by
    rw [show mu M 0 8 0 44 (Int32.toNatClampNeg 5) = nI c from ev5]; exact nI8 11 rfl
  have e5t : (17 : Int32) + mu M 0 8 0 44 (Int32.toNatClampNeg 5) = nI (17 + c) := by
    rw [show mu M 0 8 0 44 (Int32.toNatClampNeg 5) = nI c from ev5]; exact nI8 17 rfl
  have tel : ∀ (wh x : Nat) (κ t s : Int32), (wh = 0 ∨ (11 ≤ wh ∧ wh < 23)) → VB (wx (M 44) wh x) → κ = wx (M 44) wh x (11 + c) → t = wx (M 44) wh x (17 + c) → s = wx (M 44) wh x 0 → Val (S_tells M (nI (40 * row + i)) (nI n) κ t s) (tlv (wx (M 44) wh x) r c p (fun j => M 42 (40 * row + i + j)) n) := by
    intro wh x κ t s hwh hVx h1 h2 h3
    rw [← tlv_it (wx (M 44) wh x) r c p hit]
    exact v_tells hR hVx (wx_near hwh x) hr hc hr3 hc6 ev4 ep (by omega) hn6 (by omega) h1 h2 h3
  have loop : ∀ (wh lo m : Nat) (w : Int32) (Φ : Int32 → Mm → Prop), 1 ≤ lo → lo + m ≤ 100 → (∀ x, lo ≤ x → x < lo + m → VB (wx (M 44) wh x)) → (wh = 0 ∨ (11 ≤ wh ∧ wh < 23)) → (∀ F, Φ (if w = 0 then fitO (fun x => tlv (wx (M 44) wh x) r c p (fun j => M 42 (40 * row + i + j)) n) (fun x => 1 <<< (nI x &&& 31)) lo m else if w = 1 ∨ w = 3 then fitS (fun x => tlv (wx (M 44) wh x) r c p (fun j => M 42 (40 * row + i + j)) n) lo m else fitL (fun x => tlv (wx (M 44) wh x) r c p (fun j => M 42 (40 * row + i + j)) n) lo m) (mu (ms (mu M 0 8 0) 45 F) 39 3 0)) → D_R_fits_154 Φ (nI row, nI i, nI n, w, nI lo, nI (lo + m) - 1, nI wh, mu M 0 8 0) := by
    intro wh lo m w Φ h1 h2 h3 h4 h
    exact vr_fitsLoop (M := mu M 0 8 0) hV hr hc hr3 hc6 er ec ep (by omega) hn6 hrow hin h1 h2 (by omega) h3 h4 (fun x _ _ => rfl) Φ h
  have vb0 : ∀ x, 1 ≤ x → x < 1 + 5 → VB (wx (M 44) (11 + c) x) := fun x q1 q2 => wx_vb hV (by omega)
  have vb1 : ∀ x, 10 ≤ x → x < 10 + 31 → VB (wx (M 44) (17 + c) x) := fun x q1 q2 => wx_vb hV (by omega)
  have vb3 : ∀ x, 1 ≤ x → x < 1 + 99 → VB (wx (M 44) 0 x) := fun x q1 q2 => wx_vb hV (by omega)
  have t0 : ∀ x, 1 ≤ x → x ≤ 5 → Val (S_tells M (nI (40 * row + i)) (nI n) (nI x) (M 10 c) (M 7 4)) (tlv (wx (M 44) (11 + c) x) r c p (fun j => M 42 (40 * row + i + j)) n) := fun x q1 q2 => tel (11 + c) x _ _ _ (by omega) (vb0 x q1 (by omega)) (by unfold wx; rw [pk_us]) (by unfold wx; rw [pk_un (by omega)]; exact et) (by unfold wx; rw [pk_un (by omega)]; exact r4)
  have t1 : ∀ x, 10 ≤ x → x ≤ 40 → Val (S_tells M (nI (40 * row + i)) (nI n) (M 9 c) (nI x) (M 7 4)) (tlv (wx (M 44) (17 + c) x) r c p (fun j => M 42 (40 * row + i + j)) n) := fun x q1 q2 => tel (17 + c) x _ _ _ (by omega) (vb1 x q1 (by omega)) (by unfold wx; rw [pk_un (by omega)]; exact ek) (by unfold wx; rw [pk_us]) (by unfold wx; rw [pk_un (by omega)]; exact r4)
  have t3 : ∀ x, 1 ≤ x → x ≤ 99 → Val (S_tells M (nI (40 * row + i)) (nI n) (M 9 c) (M 10 c) (nI x)) (tlv (wx (M 44) 0 x) r c p (fun j => M 42 (40 * row + i + j)) n) := fun x q1 q2 => tel 0 x _ _ _ (by omega) (vb3 x q1 (by omega)) (by unfold wx; rw [pk_un (by omega)]; exact ek) (by unfold wx; rw [pk_un (by omega)]; exact et) (by unfold wx; rw [pk_us])
  rcases five hw with rfl | rfl | rfl | rfl | rfl
  · refine fin 0 _ (fun Φ h => cls 0 Φ hw (ht rfl (v_sorts e76 hc6 t0 _ (fun M1 e => by rw [e]; exact h)))) (fun Ψ h => rfc 0 Ψ hw (ht rfl (ht rfl (ht rfl ?_))))
    rw [e5']
    exact loop (11 + c) 1 5 0 Ψ (by decide) (by decide) vb0 (by omega) h
  · refine fin 1 _ (fun Φ h => cls 1 Φ hw (sk (by decide) (ht rfl (sk (by decide) (v_teeth e76 hc6 0 t1 _ (fun M1 e => by rw [e]; exact h)))))) (fun Ψ h => rfc 1 Ψ hw (sk (by decide) (sk (by decide) (sk (by decide) (sk (by decide) (sk (by decide) (sk (by decide) ?_)))))))
    rw [e5t]
    exact loop (17 + c) 10 31 1 Ψ (by decide) (by decide) vb1 (by omega) h
  · refine fin 2 _ (fun Φ h => cls 2 Φ hw (sk (by decide) (sk (by decide) (ht rfl (ht rfl (v_teeth e76 hc6 1 t1 _ (fun M1 e => by rw [e]; exact h))))))) (fun Ψ h => rfc 2 Ψ hw (sk (by decide) (sk (by decide) (sk (by decide) (sk (by decide) (sk (by decide) (sk (by decide) ?_)))))))
    rw [e5t]
    exact loop (17 + c) 10 31 2 Ψ (by decide) (by decide) vb1 (by omega) h
  · refine fin 3 _ (fun Φ h => cls 3 Φ hw (sk (by decide) (sk (by decide) (sk (by decide) (sk (by decide) (v_strengths e76 hc6 0 t3 _ (fun M1 e => by rw [e]; exact h))))))) (fun Ψ h => rfc 3 Ψ hw (sk (by decide) (ht (by decide) (sk (by decide) (ht (by decide) (sk (by decide) (ht (by decide) ?_)))))))
    exact loop 0 1 99 3 Ψ (by decide) (by decide) vb3 (by omega) h
  · refine fin 4 _ (fun Φ h => cls 4 Φ hw (sk (by decide) (sk (by decide) (sk (by decide) (ht rfl (v_strengths e76 hc6 1 t3 _ (fun M1 e => by rw [e]; exact h))))))) (fun Ψ h => rfc 4 Ψ hw (sk (by decide) (ht (by decide) (sk (by decide) (ht (by decide) (sk (by decide) (ht (by decide) ?_)))))))
    exact loop 0 1 99 4 Ψ (by decide) (by decide) vb3 (by omega) h
end Fit
