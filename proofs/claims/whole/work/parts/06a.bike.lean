/-- GearRoad$Bike.clear()V -/
def D_Bike_clear_47 (Φ : Mm → Prop) (rec_47 : Int32 × Mm → Prop) : Int32 × Mm → Prop
  | (x1, M) => ((6 ≤ x1 → Φ M) ∧ (¬ (6 ≤ x1) → vp_in x1 6 ∧ (∀ M3, M3 = mu M 17 (Int32.toNatClampNeg x1) 0 → rec_47 ((x1 + 1), M3))))
def S_Bike_clear (M : Mm) (Φ : Mm → Prop) : Prop := (∀ M1, M1 = mu M 13 0 0 → (∀ M2, M2 = mu M1 13 1 0 → (∀ M3, M3 = mu M2 13 2 0 → (∀ M4, M4 = mu M3 13 3 0 → (∀ M5, M5 = mu M4 13 4 0 → (∀ M6, M6 = mu M5 13 5 0 → (∀ M7, M7 = mu M6 13 6 0 → (∀ M8, M8 = mu M7 13 7 0 → (∀ M9, M9 = mu M8 13 8 0 → ∃ n, lp (D_Bike_clear_47 Φ) n (0, M9))))))))))
set_option maxRecDepth 100000 in
set_option maxHeartbeats 4000000 in
theorem L_Bike_clear_47 {d : Nat} {Post : Option Value → Mm → Prop} {rec_47 : Int32 × Mm → Prop} {Φ : Mm → Prop} (hΦ : ∀ M1, Φ M1 → Post none M1) (hrec_47 : ∀ (x1 : Int32) (M : Mm), rec_47 (x1, M) → WP (Ct (d + 0)) 27 Post (47, [some (.ref 13), some (.int x1)], [], M)) : ∀ (x1 : Int32) (M : Mm), D_Bike_clear_47 Φ rec_47 (x1, M) → WP (Ct (d + 0)) 27 Post (47, [some (.ref 13), some (.int x1)], [], M) := by
  intro x1 M h
  replace h : ((6 ≤ x1 → Φ M) ∧ (¬ (6 ≤ x1) → vp_in x1 6 ∧ (∀ M3, M3 = mu M 17 (Int32.toNatClampNeg x1) 0 → rec_47 ((x1 + 1), M3)))) := h
  refine WP.blk [(.iload_n 1, 1, (0, 0), .null), (.bipush 6, 2, (0, 0), .int 6)] (G := True) (c' := (50, [some (.ref 13), some (.int x1)], [.int 6, .int x1], M)) (by decide +kernel) rfl trivial ?_
  refine WP.br (.if_icmp .ge 16, 3, (66, 0), .null) (by decide +kernel) rfl (fun c2 => ?_) (fun c2 => ?_)
  · replace h := h.1 c2
    exact WP.ret (.return_, 1, (0, 0), .null) (rk := 0) (by decide +kernel) (by decide +kernel) rfl trivial (hΦ _ h)
  · replace h := h.2 c2
    refine WP.blk [(.aload_n 0, 1, (0, 0), .null), (.getfield 50, 3, (1, 12), .null), (.iload_n 1, 1, (0, 0), .null), (.iconst 0, 1, (0, 0), .int 0), (.iastore, 1, (0, 0), .null)] (G := vp_in x1 6 ∧ True) (c' := (60, [some (.ref 13), some (.int x1)], [], (mu M 17 (Int32.toNatClampNeg x1) 0))) (by decide +kernel) rfl ⟨h.1, trivial⟩ ?_
    replace h := h.2
    replace h := h (mu M 17 (Int32.toNatClampNeg x1) 0) rfl
    generalize (mu M 17 (Int32.toNatClampNeg x1) 0) = M3 at h ⊢
    refine WP.blk [(.iinc 1 1, 3, (0, 0), .int 1), (.goto (-16), 3, (47, 0), .null)] (G := True) (c' := (47, [some (.ref 13), some (.int (x1 + 1))], [], M3)) (by decide +kernel) rfl trivial ?_
    exact hrec_47 _ _ h
theorem P_Bike_clear_47 {d : Nat} {Post : Option Value → Mm → Prop} {Φ : Mm → Prop} (hΦ : ∀ M1, Φ M1 → Post none M1) : ∀ (n : Nat) (x1 : Int32) (M : Mm), lp (D_Bike_clear_47 Φ) n (x1, M) → WP (Ct (d + 0)) 27 Post (47, [some (.ref 13), some (.int x1)], [], M)
  | 0, x1, M, h => absurd h (by simp [lp])
  | n + 1, x1, M, h => L_Bike_clear_47 hΦ (P_Bike_clear_47 hΦ n) x1 M h
set_option maxRecDepth 100000 in
set_option maxHeartbeats 4000000 in
theorem sp_Bike_clear {d : Nat} {Post : Option Value → Mm → Prop} {M : Mm} {Φ : Mm → Prop} (h : S_Bike_clear M Φ) (hΦ : ∀ M1, Φ M1 → Post none M1) : Ct (d + 1) 27 [.ref 13] M Post := by
  refine Ct.go (n := 2) (E := [some (.ref 13), none]) (by decide +kernel) (by simp [Value.category]) rfl ?_
  refine WP.blk [(.aload_n 0, 1, (0, 0), .null), (.iconst 0, 1, (0, 0), .int 0), (.putfield 9, 3, (1, 0), .null)] (G := ((0 : Int32) = 0 ∨ (0 : Int32) = 1) ∧ True) (c' := (5, [some (.ref 13), none], [], (mu M 13 0 0))) (by decide +kernel) rfl ⟨(by decide), trivial⟩ ?_
  replace h := h (mu M 13 0 0) rfl
  generalize (mu M 13 0 0) = M1 at h ⊢
  refine WP.blk [(.aload_n 0, 1, (0, 0), .null), (.iconst 0, 1, (0, 0), .int 0), (.putfield 15, 3, (1, 1), .null)] (G := True) (c' := (10, [some (.ref 13), none], [], (mu M1 13 1 0))) (by decide +kernel) rfl trivial ?_
  replace h := h (mu M1 13 1 0) rfl
  generalize (mu M1 13 1 0) = M2 at h ⊢
  refine WP.blk [(.aload_n 0, 1, (0, 0), .null), (.iconst 0, 1, (0, 0), .int 0), (.putfield 19, 3, (1, 2), .null)] (G := True) (c' := (15, [some (.ref 13), none], [], (mu M2 13 2 0))) (by decide +kernel) rfl trivial ?_
  replace h := h (mu M2 13 2 0) rfl
  generalize (mu M2 13 2 0) = M3 at h ⊢
  refine WP.blk [(.aload_n 0, 1, (0, 0), .null), (.iconst 0, 1, (0, 0), .int 0), (.putfield 22, 3, (1, 3), .null)] (G := True) (c' := (20, [some (.ref 13), none], [], (mu M3 13 3 0))) (by decide +kernel) rfl trivial ?_
  replace h := h (mu M3 13 3 0) rfl
  generalize (mu M3 13 3 0) = M4 at h ⊢
  refine WP.blk [(.aload_n 0, 1, (0, 0), .null), (.iconst 0, 1, (0, 0), .int 0), (.putfield 25, 3, (1, 4), .null)] (G := True) (c' := (25, [some (.ref 13), none], [], (mu M4 13 4 0))) (by decide +kernel) rfl trivial ?_
  replace h := h (mu M4 13 4 0) rfl
  generalize (mu M4 13 4 0) = M5 at h ⊢
  refine WP.blk [(.aload_n 0, 1, (0, 0), .null), (.iconst 0, 1, (0, 0), .int 0), (.putfield 28, 3, (1, 5), .null)] (G := True) (c' := (30, [some (.ref 13), none], [], (mu M5 13 5 0))) (by decide +kernel) rfl trivial ?_
  replace h := h (mu M5 13 5 0) rfl
  generalize (mu M5 13 5 0) = M6 at h ⊢
  refine WP.blk [(.aload_n 0, 1, (0, 0), .null), (.iconst 0, 1, (0, 0), .int 0), (.putfield 31, 3, (1, 6), .null)] (G := True) (c' := (35, [some (.ref 13), none], [], (mu M6 13 6 0))) (by decide +kernel) rfl trivial ?_
  replace h := h (mu M6 13 6 0) rfl
  generalize (mu M6 13 6 0) = M7 at h ⊢
  refine WP.blk [(.aload_n 0, 1, (0, 0), .null), (.iconst 0, 1, (0, 0), .int 0), (.putfield 34, 3, (1, 7), .null)] (G := True) (c' := (40, [some (.ref 13), none], [], (mu M7 13 7 0))) (by decide +kernel) rfl trivial ?_
  replace h := h (mu M7 13 7 0) rfl
  generalize (mu M7 13 7 0) = M8 at h ⊢
  refine WP.blk [(.aload_n 0, 1, (0, 0), .null), (.iconst 0, 1, (0, 0), .int 0), (.putfield 37, 3, (1, 8), .null)] (G := True) (c' := (45, [some (.ref 13), none], [], (mu M8 13 8 0))) (by decide +kernel) rfl trivial ?_
  replace h := h (mu M8 13 8 0) rfl
  generalize (mu M8 13 8 0) = M9 at h ⊢
  refine WP.blk [(.iconst 0, 1, (0, 0), .int 0), (.istore_n 1, 1, (0, 0), .null)] (G := True) (c' := (47, [some (.ref 13), some (.int 0)], [], M9)) (by decide +kernel) rfl trivial ?_
  obtain ⟨n, h⟩ := h
  exact P_Bike_clear_47 hΦ n _ _ h
/-- GearRoad$Bike.takeFrom(LGearRoad$Bike;)V -/
def S_Bike_takeFrom (k : Nat) (q : Nat) (M : Mm) (Φ : Mm → Prop) : Prop := ((M q 0) = 0 ∨ (M q 0) = 1) ∧ (∀ M1, M1 = mu M k 0 (M q 0) → (∀ M2, M2 = mu M1 k 1 (M1 q 1) → (∀ M3, M3 = mu M2 k 2 (M2 q 2) → (∀ M4, M4 = mu M3 k 3 (M3 q 3) → (∀ M5, M5 = mu M4 k 4 (M4 q 4) → (∀ M6, M6 = mu M5 k 5 (M5 q 5) → (∀ M7, M7 = mu M6 k 6 (M6 q 6) → (∀ M8, M8 = mu M7 k 7 (M7 q 7) → (∀ M9, M9 = mu M8 k 8 (M8 q 8) → (∀ M10, M10 = mcp M9 (q + 1) (k + 1) (Int32.toNatClampNeg 0) (Int32.toNatClampNeg 0) (Int32.toNatClampNeg 3) → (∀ M11, M11 = mcp M10 (q + 2) (k + 2) (Int32.toNatClampNeg 0) (Int32.toNatClampNeg 0) (Int32.toNatClampNeg 6) → (∀ M12, M12 = mcp M11 (q + 3) (k + 3) (Int32.toNatClampNeg 0) (Int32.toNatClampNeg 0) (Int32.toNatClampNeg 6) → (∀ M13, M13 = mcp M12 (q + 4) (k + 4) (Int32.toNatClampNeg 0) (Int32.toNatClampNeg 0) (Int32.toNatClampNeg 6) → (∀ M14, M14 = mcp M13 (q + 5) (k + 5) (Int32.toNatClampNeg 0) (Int32.toNatClampNeg 0) (Int32.toNatClampNeg 6) → Φ M14))))))))))))))
set_option maxRecDepth 100000 in
set_option maxHeartbeats 4000000 in
theorem sp_Bike_takeFrom {d : Nat} {Post : Option Value → Mm → Prop} {k : Nat} {q : Nat} {M : Mm} {Φ : Mm → Prop} (hk : (k = 7 ∧ q = 13) ∨ (k = 13 ∧ q = 7) ∨ (k = 20 ∧ q = 7) ∨ (k = 26 ∧ q = 7) ∨ (k = 7 ∧ q = 20) ∨ (k = 7 ∧ q = 26)) (h : S_Bike_takeFrom k q M Φ) (hΦ : ∀ M1, Φ M1 → Post none M1) : Ct (d + 1) 40 [.ref k, .ref q] M Post := by
  rcases hk with ⟨rfl, rfl⟩ | ⟨rfl, rfl⟩ | ⟨rfl, rfl⟩ | ⟨rfl, rfl⟩ | ⟨rfl, rfl⟩ | ⟨rfl, rfl⟩
  · refine Ct.go (n := 2) (E := [some (.ref 7), some (.ref 13)]) (by decide +kernel) (by simp [Value.category]) rfl ?_
    refine WP.blk [(.aload_n 0, 1, (0, 0), .null), (.aload_n 1, 1, (0, 0), .null), (.getfield 9, 3, (1, 0), .null), (.putfield 9, 3, (1, 0), .null)] (G := ((M 13 0) = 0 ∨ (M 13 0) = 1) ∧ True) (c' := (8, [some (.ref 7), some (.ref 13)], [], (mu M 7 0 (M 13 0)))) (by decide +kernel) rfl ⟨h.1, trivial⟩ ?_
    replace h := h.2
    replace h := h (mu M 7 0 (M 13 0)) rfl
    generalize (mu M 7 0 (M 13 0)) = M1 at h ⊢
    refine WP.blk [(.aload_n 0, 1, (0, 0), .null), (.aload_n 1, 1, (0, 0), .null), (.getfield 15, 3, (1, 1), .null), (.putfield 15, 3, (1, 1), .null)] (G := True) (c' := (16, [some (.ref 7), some (.ref 13)], [], (mu M1 7 1 (M1 13 1)))) (by decide +kernel) rfl trivial ?_
    replace h := h (mu M1 7 1 (M1 13 1)) rfl
    generalize (mu M1 7 1 (M1 13 1)) = M2 at h ⊢
    refine WP.blk [(.aload_n 0, 1, (0, 0), .null), (.aload_n 1, 1, (0, 0), .null), (.getfield 19, 3, (1, 2), .null), (.putfield 19, 3, (1, 2), .null)] (G := True) (c' := (24, [some (.ref 7), some (.ref 13)], [], (mu M2 7 2 (M2 13 2)))) (by decide +kernel) rfl trivial ?_
    replace h := h (mu M2 7 2 (M2 13 2)) rfl
    generalize (mu M2 7 2 (M2 13 2)) = M3 at h ⊢
    refine WP.blk [(.aload_n 0, 1, (0, 0), .null), (.aload_n 1, 1, (0, 0), .null), (.getfield 22, 3, (1, 3), .null), (.putfield 22, 3, (1, 3), .null)] (G := True) (c' := (32, [some (.ref 7), some (.ref 13)], [], (mu M3 7 3 (M3 13 3)))) (by decide +kernel) rfl trivial ?_
    replace h := h (mu M3 7 3 (M3 13 3)) rfl
    generalize (mu M3 7 3 (M3 13 3)) = M4 at h ⊢
    refine WP.blk [(.aload_n 0, 1, (0, 0), .null), (.aload_n 1, 1, (0, 0), .null), (.getfield 25, 3, (1, 4), .null), (.putfield 25, 3, (1, 4), .null)] (G := True) (c' := (40, [some (.ref 7), some (.ref 13)], [], (mu M4 7 4 (M4 13 4)))) (by decide +kernel) rfl trivial ?_
    replace h := h (mu M4 7 4 (M4 13 4)) rfl
    generalize (mu M4 7 4 (M4 13 4)) = M5 at h ⊢
    refine WP.blk [(.aload_n 0, 1, (0, 0), .null), (.aload_n 1, 1, (0, 0), .null), (.getfield 28, 3, (1, 5), .null), (.putfield 28, 3, (1, 5), .null)] (G := True) (c' := (48, [some (.ref 7), some (.ref 13)], [], (mu M5 7 5 (M5 13 5)))) (by decide +kernel) rfl trivial ?_
    replace h := h (mu M5 7 5 (M5 13 5)) rfl
    generalize (mu M5 7 5 (M5 13 5)) = M6 at h ⊢
    refine WP.blk [(.aload_n 0, 1, (0, 0), .null), (.aload_n 1, 1, (0, 0), .null), (.getfield 31, 3, (1, 6), .null), (.putfield 31, 3, (1, 6), .null)] (G := True) (c' := (56, [some (.ref 7), some (.ref 13)], [], (mu M6 7 6 (M6 13 6)))) (by decide +kernel) rfl trivial ?_
    replace h := h (mu M6 7 6 (M6 13 6)) rfl
    generalize (mu M6 7 6 (M6 13 6)) = M7 at h ⊢
    refine WP.blk [(.aload_n 0, 1, (0, 0), .null), (.aload_n 1, 1, (0, 0), .null), (.getfield 34, 3, (1, 7), .null), (.putfield 34, 3, (1, 7), .null)] (G := True) (c' := (64, [some (.ref 7), some (.ref 13)], [], (mu M7 7 7 (M7 13 7)))) (by decide +kernel) rfl trivial ?_
    replace h := h (mu M7 7 7 (M7 13 7)) rfl
    generalize (mu M7 7 7 (M7 13 7)) = M8 at h ⊢
    refine WP.blk [(.aload_n 0, 1, (0, 0), .null), (.aload_n 1, 1, (0, 0), .null), (.getfield 37, 3, (1, 8), .null), (.putfield 37, 3, (1, 8), .null)] (G := True) (c' := (72, [some (.ref 7), some (.ref 13)], [], (mu M8 7 8 (M8 13 8)))) (by decide +kernel) rfl trivial ?_
    replace h := h (mu M8 7 8 (M8 13 8)) rfl
    generalize (mu M8 7 8 (M8 13 8)) = M9 at h ⊢
    refine WP.blk [(.aload_n 1, 1, (0, 0), .null), (.getfield 40, 3, (1, 9), .null), (.iconst 0, 1, (0, 0), .int 0), (.aload_n 0, 1, (0, 0), .null), (.getfield 40, 3, (1, 9), .null), (.iconst 0, 1, (0, 0), .int 0), (.iconst 3, 1, (0, 0), .int 3), (.invokestatic 56, 3, (999, 5), .null)] (G := cpOk 0 0 3 3 3 ∧ True) (c' := (86, [some (.ref 7), some (.ref 13)], [], (mcp M9 14 8 (Int32.toNatClampNeg 0) (Int32.toNatClampNeg 0) (Int32.toNatClampNeg 3)))) (by decide +kernel) rfl ⟨(by unfold cpOk; decide), trivial⟩ ?_
    replace h := h (mcp M9 14 8 (Int32.toNatClampNeg 0) (Int32.toNatClampNeg 0) (Int32.toNatClampNeg 3)) rfl
    generalize (mcp M9 14 8 (Int32.toNatClampNeg 0) (Int32.toNatClampNeg 0) (Int32.toNatClampNeg 3)) = M10 at h ⊢
    refine WP.blk [(.aload_n 1, 1, (0, 0), .null), (.getfield 44, 3, (1, 10), .null), (.iconst 0, 1, (0, 0), .int 0), (.aload_n 0, 1, (0, 0), .null), (.getfield 44, 3, (1, 10), .null), (.iconst 0, 1, (0, 0), .int 0), (.bipush 6, 2, (0, 0), .int 6), (.invokestatic 56, 3, (999, 5), .null)] (G := cpOk 0 0 6 6 6 ∧ True) (c' := (101, [some (.ref 7), some (.ref 13)], [], (mcp M10 15 9 (Int32.toNatClampNeg 0) (Int32.toNatClampNeg 0) (Int32.toNatClampNeg 6)))) (by decide +kernel) rfl ⟨(by unfold cpOk; decide), trivial⟩ ?_
    replace h := h (mcp M10 15 9 (Int32.toNatClampNeg 0) (Int32.toNatClampNeg 0) (Int32.toNatClampNeg 6)) rfl
    generalize (mcp M10 15 9 (Int32.toNatClampNeg 0) (Int32.toNatClampNeg 0) (Int32.toNatClampNeg 6)) = M11 at h ⊢
    refine WP.blk [(.aload_n 1, 1, (0, 0), .null), (.getfield 47, 3, (1, 11), .null), (.iconst 0, 1, (0, 0), .int 0), (.aload_n 0, 1, (0, 0), .null), (.getfield 47, 3, (1, 11), .null), (.iconst 0, 1, (0, 0), .int 0), (.bipush 6, 2, (0, 0), .int 6), (.invokestatic 56, 3, (999, 5), .null)] (G := cpOk 0 0 6 6 6 ∧ True) (c' := (116, [some (.ref 7), some (.ref 13)], [], (mcp M11 16 10 (Int32.toNatClampNeg 0) (Int32.toNatClampNeg 0) (Int32.toNatClampNeg 6)))) (by decide +kernel) rfl ⟨(by unfold cpOk; decide), trivial⟩ ?_
    replace h := h (mcp M11 16 10 (Int32.toNatClampNeg 0) (Int32.toNatClampNeg 0) (Int32.toNatClampNeg 6)) rfl
    generalize (mcp M11 16 10 (Int32.toNatClampNeg 0) (Int32.toNatClampNeg 0) (Int32.toNatClampNeg 6)) = M12 at h ⊢
    refine WP.blk [(.aload_n 1, 1, (0, 0), .null), (.getfield 50, 3, (1, 12), .null), (.iconst 0, 1, (0, 0), .int 0), (.aload_n 0, 1, (0, 0), .null), (.getfield 50, 3, (1, 12), .null), (.iconst 0, 1, (0, 0), .int 0), (.bipush 6, 2, (0, 0), .int 6), (.invokestatic 56, 3, (999, 5), .null)] (G := cpOk 0 0 6 6 6 ∧ True) (c' := (131, [some (.ref 7), some (.ref 13)], [], (mcp M12 17 11 (Int32.toNatClampNeg 0) (Int32.toNatClampNeg 0) (Int32.toNatClampNeg 6)))) (by decide +kernel) rfl ⟨(by unfold cpOk; decide), trivial⟩ ?_
    replace h := h (mcp M12 17 11 (Int32.toNatClampNeg 0) (Int32.toNatClampNeg 0) (Int32.toNatClampNeg 6)) rfl
    generalize (mcp M12 17 11 (Int32.toNatClampNeg 0) (Int32.toNatClampNeg 0) (Int32.toNatClampNeg 6)) = M13 at h ⊢
    refine WP.blk [(.aload_n 1, 1, (0, 0), .null), (.getfield 53, 3, (1, 13), .null), (.iconst 0, 1, (0, 0), .int 0), (.aload_n 0, 1, (0, 0), .null), (.getfield 53, 3, (1, 13), .null), (.iconst 0, 1, (0, 0), .int 0), (.bipush 6, 2, (0, 0), .int 6), (.invokestatic 56, 3, (999, 5), .null)] (G := cpOk 0 0 6 6 6 ∧ True) (c' := (146, [some (.ref 7), some (.ref 13)], [], (mcp M13 18 12 (Int32.toNatClampNeg 0) (Int32.toNatClampNeg 0) (Int32.toNatClampNeg 6)))) (by decide +kernel) rfl ⟨(by unfold cpOk; decide), trivial⟩ ?_
    replace h := h (mcp M13 18 12 (Int32.toNatClampNeg 0) (Int32.toNatClampNeg 0) (Int32.toNatClampNeg 6)) rfl
    generalize (mcp M13 18 12 (Int32.toNatClampNeg 0) (Int32.toNatClampNeg 0) (Int32.toNatClampNeg 6)) = M14 at h ⊢
    exact WP.ret (.return_, 1, (0, 0), .null) (rk := 0) (by decide +kernel) (by decide +kernel) rfl trivial (hΦ _ h)
  · refine Ct.go (n := 2) (E := [some (.ref 13), some (.ref 7)]) (by decide +kernel) (by simp [Value.category]) rfl ?_
    refine WP.blk [(.aload_n 0, 1, (0, 0), .null), (.aload_n 1, 1, (0, 0), .null), (.getfield 9, 3, (1, 0), .null), (.putfield 9, 3, (1, 0), .null)] (G := ((M 7 0) = 0 ∨ (M 7 0) = 1) ∧ True) (c' := (8, [some (.ref 13), some (.ref 7)], [], (mu M 13 0 (M 7 0)))) (by decide +kernel) rfl ⟨h.1, trivial⟩ ?_
    replace h := h.2
    replace h := h (mu M 13 0 (M 7 0)) rfl
    generalize (mu M 13 0 (M 7 0)) = M1 at h ⊢
    refine WP.blk [(.aload_n 0, 1, (0, 0), .null), (.aload_n 1, 1, (0, 0), .null), (.getfield 15, 3, (1, 1), .null), (.putfield 15, 3, (1, 1), .null)] (G := True) (c' := (16, [some (.ref 13), some (.ref 7)], [], (mu M1 13 1 (M1 7 1)))) (by decide +kernel) rfl trivial ?_
    replace h := h (mu M1 13 1 (M1 7 1)) rfl
    generalize (mu M1 13 1 (M1 7 1)) = M2 at h ⊢
    refine WP.blk [(.aload_n 0, 1, (0, 0), .null), (.aload_n 1, 1, (0, 0), .null), (.getfield 19, 3, (1, 2), .null), (.putfield 19, 3, (1, 2), .null)] (G := True) (c' := (24, [some (.ref 13), some (.ref 7)], [], (mu M2 13 2 (M2 7 2)))) (by decide +kernel) rfl trivial ?_
    replace h := h (mu M2 13 2 (M2 7 2)) rfl
    generalize (mu M2 13 2 (M2 7 2)) = M3 at h ⊢
    refine WP.blk [(.aload_n 0, 1, (0, 0), .null), (.aload_n 1, 1, (0, 0), .null), (.getfield 22, 3, (1, 3), .null), (.putfield 22, 3, (1, 3), .null)] (G := True) (c' := (32, [some (.ref 13), some (.ref 7)], [], (mu M3 13 3 (M3 7 3)))) (by decide +kernel) rfl trivial ?_
    replace h := h (mu M3 13 3 (M3 7 3)) rfl
    generalize (mu M3 13 3 (M3 7 3)) = M4 at h ⊢
    refine WP.blk [(.aload_n 0, 1, (0, 0), .null), (.aload_n 1, 1, (0, 0), .null), (.getfield 25, 3, (1, 4), .null), (.putfield 25, 3, (1, 4), .null)] (G := True) (c' := (40, [some (.ref 13), some (.ref 7)], [], (mu M4 13 4 (M4 7 4)))) (by decide +kernel) rfl trivial ?_
    replace h := h (mu M4 13 4 (M4 7 4)) rfl
    generalize (mu M4 13 4 (M4 7 4)) = M5 at h ⊢
    refine WP.blk [(.aload_n 0, 1, (0, 0), .null), (.aload_n 1, 1, (0, 0), .null), (.getfield 28, 3, (1, 5), .null), (.putfield 28, 3, (1, 5), .null)] (G := True) (c' := (48, [some (.ref 13), some (.ref 7)], [], (mu M5 13 5 (M5 7 5)))) (by decide +kernel) rfl trivial ?_
    replace h := h (mu M5 13 5 (M5 7 5)) rfl
    generalize (mu M5 13 5 (M5 7 5)) = M6 at h ⊢
    refine WP.blk [(.aload_n 0, 1, (0, 0), .null), (.aload_n 1, 1, (0, 0), .null), (.getfield 31, 3, (1, 6), .null), (.putfield 31, 3, (1, 6), .null)] (G := True) (c' := (56, [some (.ref 13), some (.ref 7)], [], (mu M6 13 6 (M6 7 6)))) (by decide +kernel) rfl trivial ?_
    replace h := h (mu M6 13 6 (M6 7 6)) rfl
    generalize (mu M6 13 6 (M6 7 6)) = M7 at h ⊢
    refine WP.blk [(.aload_n 0, 1, (0, 0), .null), (.aload_n 1, 1, (0, 0), .null), (.getfield 34, 3, (1, 7), .null), (.putfield 34, 3, (1, 7), .null)] (G := True) (c' := (64, [some (.ref 13), some (.ref 7)], [], (mu M7 13 7 (M7 7 7)))) (by decide +kernel) rfl trivial ?_
    replace h := h (mu M7 13 7 (M7 7 7)) rfl
    generalize (mu M7 13 7 (M7 7 7)) = M8 at h ⊢
    refine WP.blk [(.aload_n 0, 1, (0, 0), .null), (.aload_n 1, 1, (0, 0), .null), (.getfield 37, 3, (1, 8), .null), (.putfield 37, 3, (1, 8), .null)] (G := True) (c' := (72, [some (.ref 13), some (.ref 7)], [], (mu M8 13 8 (M8 7 8)))) (by decide +kernel) rfl trivial ?_
    replace h := h (mu M8 13 8 (M8 7 8)) rfl
    generalize (mu M8 13 8 (M8 7 8)) = M9 at h ⊢
    refine WP.blk [(.aload_n 1, 1, (0, 0), .null), (.getfield 40, 3, (1, 9), .null), (.iconst 0, 1, (0, 0), .int 0), (.aload_n 0, 1, (0, 0), .null), (.getfield 40, 3, (1, 9), .null), (.iconst 0, 1, (0, 0), .int 0), (.iconst 3, 1, (0, 0), .int 3), (.invokestatic 56, 3, (999, 5), .null)] (G := cpOk 0 0 3 3 3 ∧ True) (c' := (86, [some (.ref 13), some (.ref 7)], [], (mcp M9 8 14 (Int32.toNatClampNeg 0) (Int32.toNatClampNeg 0) (Int32.toNatClampNeg 3)))) (by decide +kernel) rfl ⟨(by unfold cpOk; decide), trivial⟩ ?_
    replace h := h (mcp M9 8 14 (Int32.toNatClampNeg 0) (Int32.toNatClampNeg 0) (Int32.toNatClampNeg 3)) rfl
    generalize (mcp M9 8 14 (Int32.toNatClampNeg 0) (Int32.toNatClampNeg 0) (Int32.toNatClampNeg 3)) = M10 at h ⊢
    refine WP.blk [(.aload_n 1, 1, (0, 0), .null), (.getfield 44, 3, (1, 10), .null), (.iconst 0, 1, (0, 0), .int 0), (.aload_n 0, 1, (0, 0), .null), (.getfield 44, 3, (1, 10), .null), (.iconst 0, 1, (0, 0), .int 0), (.bipush 6, 2, (0, 0), .int 6), (.invokestatic 56, 3, (999, 5), .null)] (G := cpOk 0 0 6 6 6 ∧ True) (c' := (101, [some (.ref 13), some (.ref 7)], [], (mcp M10 9 15 (Int32.toNatClampNeg 0) (Int32.toNatClampNeg 0) (Int32.toNatClampNeg 6)))) (by decide +kernel) rfl ⟨(by unfold cpOk; decide), trivial⟩ ?_
    replace h := h (mcp M10 9 15 (Int32.toNatClampNeg 0) (Int32.toNatClampNeg 0) (Int32.toNatClampNeg 6)) rfl
    generalize (mcp M10 9 15 (Int32.toNatClampNeg 0) (Int32.toNatClampNeg 0) (Int32.toNatClampNeg 6)) = M11 at h ⊢
    refine WP.blk [(.aload_n 1, 1, (0, 0), .null), (.getfield 47, 3, (1, 11), .null), (.iconst 0, 1, (0, 0), .int 0), (.aload_n 0, 1, (0, 0), .null), (.getfield 47, 3, (1, 11), .null), (.iconst 0, 1, (0, 0), .int 0), (.bipush 6, 2, (0, 0), .int 6), (.invokestatic 56, 3, (999, 5), .null)] (G := cpOk 0 0 6 6 6 ∧ True) (c' := (116, [some (.ref 13), some (.ref 7)], [], (mcp M11 10 16 (Int32.toNatClampNeg 0) (Int32.toNatClampNeg 0) (Int32.toNatClampNeg 6)))) (by decide +kernel) rfl ⟨(by unfold cpOk; decide), trivial⟩ ?_
    replace h := h (mcp M11 10 16 (Int32.toNatClampNeg 0) (Int32.toNatClampNeg 0) (Int32.toNatClampNeg 6)) rfl
    generalize (mcp M11 10 16 (Int32.toNatClampNeg 0) (Int32.toNatClampNeg 0) (Int32.toNatClampNeg 6)) = M12 at h ⊢
    refine WP.blk [(.aload_n 1, 1, (0, 0), .null), (.getfield 50, 3, (1, 12), .null), (.iconst 0, 1, (0, 0), .int 0), (.aload_n 0, 1, (0, 0), .null), (.getfield 50, 3, (1, 12), .null), (.iconst 0, 1, (0, 0), .int 0), (.bipush 6, 2, (0, 0), .int 6), (.invokestatic 56, 3, (999, 5), .null)] (G := cpOk 0 0 6 6 6 ∧ True) (c' := (131, [some (.ref 13), some (.ref 7)], [], (mcp M12 11 17 (Int32.toNatClampNeg 0) (Int32.toNatClampNeg 0) (Int32.toNatClampNeg 6)))) (by decide +kernel) rfl ⟨(by unfold cpOk; decide), trivial⟩ ?_
    replace h := h (mcp M12 11 17 (Int32.toNatClampNeg 0) (Int32.toNatClampNeg 0) (Int32.toNatClampNeg 6)) rfl
    generalize (mcp M12 11 17 (Int32.toNatClampNeg 0) (Int32.toNatClampNeg 0) (Int32.toNatClampNeg 6)) = M13 at h ⊢
    refine WP.blk [(.aload_n 1, 1, (0, 0), .null), (.getfield 53, 3, (1, 13), .null), (.iconst 0, 1, (0, 0), .int 0), (.aload_n 0, 1, (0, 0), .null), (.getfield 53, 3, (1, 13), .null), (.iconst 0, 1, (0, 0), .int 0), (.bipush 6, 2, (0, 0), .int 6), (.invokestatic 56, 3, (999, 5), .null)] (G := cpOk 0 0 6 6 6 ∧ True) (c' := (146, [some (.ref 13), some (.ref 7)], [], (mcp M13 12 18 (Int32.toNatClampNeg 0) (Int32.toNatClampNeg 0) (Int32.toNatClampNeg 6)))) (by decide +kernel) rfl ⟨(by unfold cpOk; decide), trivial⟩ ?_
    replace h := h (mcp M13 12 18 (Int32.toNatClampNeg 0) (Int32.toNatClampNeg 0) (Int32.toNatClampNeg 6)) rfl
    generalize (mcp M13 12 18 (Int32.toNatClampNeg 0) (Int32.toNatClampNeg 0) (Int32.toNatClampNeg 6)) = M14 at h ⊢
    exact WP.ret (.return_, 1, (0, 0), .null) (rk := 0) (by decide +kernel) (by decide +kernel) rfl trivial (hΦ _ h)
  · refine Ct.go (n := 2) (E := [some (.ref 20), some (.ref 7)]) (by decide +kernel) (by simp [Value.category]) rfl ?_
    refine WP.blk [(.aload_n 0, 1, (0, 0), .null), (.aload_n 1, 1, (0, 0), .null), (.getfield 9, 3, (1, 0), .null), (.putfield 9, 3, (1, 0), .null)] (G := ((M 7 0) = 0 ∨ (M 7 0) = 1) ∧ True) (c' := (8, [some (.ref 20), some (.ref 7)], [], (mu M 20 0 (M 7 0)))) (by decide +kernel) rfl ⟨h.1, trivial⟩ ?_
    replace h := h.2
    replace h := h (mu M 20 0 (M 7 0)) rfl
    generalize (mu M 20 0 (M 7 0)) = M1 at h ⊢
    refine WP.blk [(.aload_n 0, 1, (0, 0), .null), (.aload_n 1, 1, (0, 0), .null), (.getfield 15, 3, (1, 1), .null), (.putfield 15, 3, (1, 1), .null)] (G := True) (c' := (16, [some (.ref 20), some (.ref 7)], [], (mu M1 20 1 (M1 7 1)))) (by decide +kernel) rfl trivial ?_
    replace h := h (mu M1 20 1 (M1 7 1)) rfl
    generalize (mu M1 20 1 (M1 7 1)) = M2 at h ⊢
    refine WP.blk [(.aload_n 0, 1, (0, 0), .null), (.aload_n 1, 1, (0, 0), .null), (.getfield 19, 3, (1, 2), .null), (.putfield 19, 3, (1, 2), .null)] (G := True) (c' := (24, [some (.ref 20), some (.ref 7)], [], (mu M2 20 2 (M2 7 2)))) (by decide +kernel) rfl trivial ?_
    replace h := h (mu M2 20 2 (M2 7 2)) rfl
    generalize (mu M2 20 2 (M2 7 2)) = M3 at h ⊢
    refine WP.blk [(.aload_n 0, 1, (0, 0), .null), (.aload_n 1, 1, (0, 0), .null), (.getfield 22, 3, (1, 3), .null), (.putfield 22, 3, (1, 3), .null)] (G := True) (c' := (32, [some (.ref 20), some (.ref 7)], [], (mu M3 20 3 (M3 7 3)))) (by decide +kernel) rfl trivial ?_
    replace h := h (mu M3 20 3 (M3 7 3)) rfl
    generalize (mu M3 20 3 (M3 7 3)) = M4 at h ⊢
    refine WP.blk [(.aload_n 0, 1, (0, 0), .null), (.aload_n 1, 1, (0, 0), .null), (.getfield 25, 3, (1, 4), .null), (.putfield 25, 3, (1, 4), .null)] (G := True) (c' := (40, [some (.ref 20), some (.ref 7)], [], (mu M4 20 4 (M4 7 4)))) (by decide +kernel) rfl trivial ?_
    replace h := h (mu M4 20 4 (M4 7 4)) rfl
    generalize (mu M4 20 4 (M4 7 4)) = M5 at h ⊢
    refine WP.blk [(.aload_n 0, 1, (0, 0), .null), (.aload_n 1, 1, (0, 0), .null), (.getfield 28, 3, (1, 5), .null), (.putfield 28, 3, (1, 5), .null)] (G := True) (c' := (48, [some (.ref 20), some (.ref 7)], [], (mu M5 20 5 (M5 7 5)))) (by decide +kernel) rfl trivial ?_
    replace h := h (mu M5 20 5 (M5 7 5)) rfl
    generalize (mu M5 20 5 (M5 7 5)) = M6 at h ⊢
    refine WP.blk [(.aload_n 0, 1, (0, 0), .null), (.aload_n 1, 1, (0, 0), .null), (.getfield 31, 3, (1, 6), .null), (.putfield 31, 3, (1, 6), .null)] (G := True) (c' := (56, [some (.ref 20), some (.ref 7)], [], (mu M6 20 6 (M6 7 6)))) (by decide +kernel) rfl trivial ?_
    replace h := h (mu M6 20 6 (M6 7 6)) rfl
    generalize (mu M6 20 6 (M6 7 6)) = M7 at h ⊢
    refine WP.blk [(.aload_n 0, 1, (0, 0), .null), (.aload_n 1, 1, (0, 0), .null), (.getfield 34, 3, (1, 7), .null), (.putfield 34, 3, (1, 7), .null)] (G := True) (c' := (64, [some (.ref 20), some (.ref 7)], [], (mu M7 20 7 (M7 7 7)))) (by decide +kernel) rfl trivial ?_
    replace h := h (mu M7 20 7 (M7 7 7)) rfl
    generalize (mu M7 20 7 (M7 7 7)) = M8 at h ⊢
    refine WP.blk [(.aload_n 0, 1, (0, 0), .null), (.aload_n 1, 1, (0, 0), .null), (.getfield 37, 3, (1, 8), .null), (.putfield 37, 3, (1, 8), .null)] (G := True) (c' := (72, [some (.ref 20), some (.ref 7)], [], (mu M8 20 8 (M8 7 8)))) (by decide +kernel) rfl trivial ?_
    replace h := h (mu M8 20 8 (M8 7 8)) rfl
    generalize (mu M8 20 8 (M8 7 8)) = M9 at h ⊢
    refine WP.blk [(.aload_n 1, 1, (0, 0), .null), (.getfield 40, 3, (1, 9), .null), (.iconst 0, 1, (0, 0), .int 0), (.aload_n 0, 1, (0, 0), .null), (.getfield 40, 3, (1, 9), .null), (.iconst 0, 1, (0, 0), .int 0), (.iconst 3, 1, (0, 0), .int 3), (.invokestatic 56, 3, (999, 5), .null)] (G := cpOk 0 0 3 3 3 ∧ True) (c' := (86, [some (.ref 20), some (.ref 7)], [], (mcp M9 8 21 (Int32.toNatClampNeg 0) (Int32.toNatClampNeg 0) (Int32.toNatClampNeg 3)))) (by decide +kernel) rfl ⟨(by unfold cpOk; decide), trivial⟩ ?_
    replace h := h (mcp M9 8 21 (Int32.toNatClampNeg 0) (Int32.toNatClampNeg 0) (Int32.toNatClampNeg 3)) rfl
    generalize (mcp M9 8 21 (Int32.toNatClampNeg 0) (Int32.toNatClampNeg 0) (Int32.toNatClampNeg 3)) = M10 at h ⊢
    refine WP.blk [(.aload_n 1, 1, (0, 0), .null), (.getfield 44, 3, (1, 10), .null), (.iconst 0, 1, (0, 0), .int 0), (.aload_n 0, 1, (0, 0), .null), (.getfield 44, 3, (1, 10), .null), (.iconst 0, 1, (0, 0), .int 0), (.bipush 6, 2, (0, 0), .int 6), (.invokestatic 56, 3, (999, 5), .null)] (G := cpOk 0 0 6 6 6 ∧ True) (c' := (101, [some (.ref 20), some (.ref 7)], [], (mcp M10 9 22 (Int32.toNatClampNeg 0) (Int32.toNatClampNeg 0) (Int32.toNatClampNeg 6)))) (by decide +kernel) rfl ⟨(by unfold cpOk; decide), trivial⟩ ?_
    replace h := h (mcp M10 9 22 (Int32.toNatClampNeg 0) (Int32.toNatClampNeg 0) (Int32.toNatClampNeg 6)) rfl
    generalize (mcp M10 9 22 (Int32.toNatClampNeg 0) (Int32.toNatClampNeg 0) (Int32.toNatClampNeg 6)) = M11 at h ⊢
    refine WP.blk [(.aload_n 1, 1, (0, 0), .null), (.getfield 47, 3, (1, 11), .null), (.iconst 0, 1, (0, 0), .int 0), (.aload_n 0, 1, (0, 0), .null), (.getfield 47, 3, (1, 11), .null), (.iconst 0, 1, (0, 0), .int 0), (.bipush 6, 2, (0, 0), .int 6), (.invokestatic 56, 3, (999, 5), .null)] (G := cpOk 0 0 6 6 6 ∧ True) (c' := (116, [some (.ref 20), some (.ref 7)], [], (mcp M11 10 23 (Int32.toNatClampNeg 0) (Int32.toNatClampNeg 0) (Int32.toNatClampNeg 6)))) (by decide +kernel) rfl ⟨(by unfold cpOk; decide), trivial⟩ ?_
    replace h := h (mcp M11 10 23 (Int32.toNatClampNeg 0) (Int32.toNatClampNeg 0) (Int32.toNatClampNeg 6)) rfl
    generalize (mcp M11 10 23 (Int32.toNatClampNeg 0) (Int32.toNatClampNeg 0) (Int32.toNatClampNeg 6)) = M12 at h ⊢
    refine WP.blk [(.aload_n 1, 1, (0, 0), .null), (.getfield 50, 3, (1, 12), .null), (.iconst 0, 1, (0, 0), .int 0), (.aload_n 0, 1, (0, 0), .null), (.getfield 50, 3, (1, 12), .null), (.iconst 0, 1, (0, 0), .int 0), (.bipush 6, 2, (0, 0), .int 6), (.invokestatic 56, 3, (999, 5), .null)] (G := cpOk 0 0 6 6 6 ∧ True) (c' := (131, [some (.ref 20), some (.ref 7)], [], (mcp M12 11 24 (Int32.toNatClampNeg 0) (Int32.toNatClampNeg 0) (Int32.toNatClampNeg 6)))) (by decide +kernel) rfl ⟨(by unfold cpOk; decide), trivial⟩ ?_
    replace h := h (mcp M12 11 24 (Int32.toNatClampNeg 0) (Int32.toNatClampNeg 0) (Int32.toNatClampNeg 6)) rfl
    generalize (mcp M12 11 24 (Int32.toNatClampNeg 0) (Int32.toNatClampNeg 0) (Int32.toNatClampNeg 6)) = M13 at h ⊢
    refine WP.blk [(.aload_n 1, 1, (0, 0), .null), (.getfield 53, 3, (1, 13), .null), (.iconst 0, 1, (0, 0), .int 0), (.aload_n 0, 1, (0, 0), .null), (.getfield 53, 3, (1, 13), .null), (.iconst 0, 1, (0, 0), .int 0), (.bipush 6, 2, (0, 0), .int 6), (.invokestatic 56, 3, (999, 5), .null)] (G := cpOk 0 0 6 6 6 ∧ True) (c' := (146, [some (.ref 20), some (.ref 7)], [], (mcp M13 12 25 (Int32.toNatClampNeg 0) (Int32.toNatClampNeg 0) (Int32.toNatClampNeg 6)))) (by decide +kernel) rfl ⟨(by unfold cpOk; decide), trivial⟩ ?_
    replace h := h (mcp M13 12 25 (Int32.toNatClampNeg 0) (Int32.toNatClampNeg 0) (Int32.toNatClampNeg 6)) rfl
    generalize (mcp M13 12 25 (Int32.toNatClampNeg 0) (Int32.toNatClampNeg 0) (Int32.toNatClampNeg 6)) = M14 at h ⊢
    exact WP.ret (.return_, 1, (0, 0), .null) (rk := 0) (by decide +kernel) (by decide +kernel) rfl trivial (hΦ _ h)
  · refine Ct.go (n := 2) (E := [some (.ref 26), some (.ref 7)]) (by decide +kernel) (by simp [Value.category]) rfl ?_
    refine WP.blk [(.aload_n 0, 1, (0, 0), .null), (.aload_n 1, 1, (0, 0), .null), (.getfield 9, 3, (1, 0), .null), (.putfield 9, 3, (1, 0), .null)] (G := ((M 7 0) = 0 ∨ (M 7 0) = 1) ∧ True) (c' := (8, [some (.ref 26), some (.ref 7)], [], (mu M 26 0 (M 7 0)))) (by decide +kernel) rfl ⟨h.1, trivial⟩ ?_
    replace h := h.2
    replace h := h (mu M 26 0 (M 7 0)) rfl
    generalize (mu M 26 0 (M 7 0)) = M1 at h ⊢
    refine WP.blk [(.aload_n 0, 1, (0, 0), .null), (.aload_n 1, 1, (0, 0), .null), (.getfield 15, 3, (1, 1), .null), (.putfield 15, 3, (1, 1), .null)] (G := True) (c' := (16, [some (.ref 26), some (.ref 7)], [], (mu M1 26 1 (M1 7 1)))) (by decide +kernel) rfl trivial ?_
    replace h := h (mu M1 26 1 (M1 7 1)) rfl
    generalize (mu M1 26 1 (M1 7 1)) = M2 at h ⊢
    refine WP.blk [(.aload_n 0, 1, (0, 0), .null), (.aload_n 1, 1, (0, 0), .null), (.getfield 19, 3, (1, 2), .null), (.putfield 19, 3, (1, 2), .null)] (G := True) (c' := (24, [some (.ref 26), some (.ref 7)], [], (mu M2 26 2 (M2 7 2)))) (by decide +kernel) rfl trivial ?_
    replace h := h (mu M2 26 2 (M2 7 2)) rfl
    generalize (mu M2 26 2 (M2 7 2)) = M3 at h ⊢
    refine WP.blk [(.aload_n 0, 1, (0, 0), .null), (.aload_n 1, 1, (0, 0), .null), (.getfield 22, 3, (1, 3), .null), (.putfield 22, 3, (1, 3), .null)] (G := True) (c' := (32, [some (.ref 26), some (.ref 7)], [], (mu M3 26 3 (M3 7 3)))) (by decide +kernel) rfl trivial ?_
    replace h := h (mu M3 26 3 (M3 7 3)) rfl
    generalize (mu M3 26 3 (M3 7 3)) = M4 at h ⊢
    refine WP.blk [(.aload_n 0, 1, (0, 0), .null), (.aload_n 1, 1, (0, 0), .null), (.getfield 25, 3, (1, 4), .null), (.putfield 25, 3, (1, 4), .null)] (G := True) (c' := (40, [some (.ref 26), some (.ref 7)], [], (mu M4 26 4 (M4 7 4)))) (by decide +kernel) rfl trivial ?_
    replace h := h (mu M4 26 4 (M4 7 4)) rfl
    generalize (mu M4 26 4 (M4 7 4)) = M5 at h ⊢
    refine WP.blk [(.aload_n 0, 1, (0, 0), .null), (.aload_n 1, 1, (0, 0), .null), (.getfield 28, 3, (1, 5), .null), (.putfield 28, 3, (1, 5), .null)] (G := True) (c' := (48, [some (.ref 26), some (.ref 7)], [], (mu M5 26 5 (M5 7 5)))) (by decide +kernel) rfl trivial ?_
    replace h := h (mu M5 26 5 (M5 7 5)) rfl
    generalize (mu M5 26 5 (M5 7 5)) = M6 at h ⊢
    refine WP.blk [(.aload_n 0, 1, (0, 0), .null), (.aload_n 1, 1, (0, 0), .null), (.getfield 31, 3, (1, 6), .null), (.putfield 31, 3, (1, 6), .null)] (G := True) (c' := (56, [some (.ref 26), some (.ref 7)], [], (mu M6 26 6 (M6 7 6)))) (by decide +kernel) rfl trivial ?_
    replace h := h (mu M6 26 6 (M6 7 6)) rfl
    generalize (mu M6 26 6 (M6 7 6)) = M7 at h ⊢
    refine WP.blk [(.aload_n 0, 1, (0, 0), .null), (.aload_n 1, 1, (0, 0), .null), (.getfield 34, 3, (1, 7), .null), (.putfield 34, 3, (1, 7), .null)] (G := True) (c' := (64, [some (.ref 26), some (.ref 7)], [], (mu M7 26 7 (M7 7 7)))) (by decide +kernel) rfl trivial ?_
    replace h := h (mu M7 26 7 (M7 7 7)) rfl
    generalize (mu M7 26 7 (M7 7 7)) = M8 at h ⊢
    refine WP.blk [(.aload_n 0, 1, (0, 0), .null), (.aload_n 1, 1, (0, 0), .null), (.getfield 37, 3, (1, 8), .null), (.putfield 37, 3, (1, 8), .null)] (G := True) (c' := (72, [some (.ref 26), some (.ref 7)], [], (mu M8 26 8 (M8 7 8)))) (by decide +kernel) rfl trivial ?_
    replace h := h (mu M8 26 8 (M8 7 8)) rfl
    generalize (mu M8 26 8 (M8 7 8)) = M9 at h ⊢
    refine WP.blk [(.aload_n 1, 1, (0, 0), .null), (.getfield 40, 3, (1, 9), .null), (.iconst 0, 1, (0, 0), .int 0), (.aload_n 0, 1, (0, 0), .null), (.getfield 40, 3, (1, 9), .null), (.iconst 0, 1, (0, 0), .int 0), (.iconst 3, 1, (0, 0), .int 3), (.invokestatic 56, 3, (999, 5), .null)] (G := cpOk 0 0 3 3 3 ∧ True) (c' := (86, [some (.ref 26), some (.ref 7)], [], (mcp M9 8 27 (Int32.toNatClampNeg 0) (Int32.toNatClampNeg 0) (Int32.toNatClampNeg 3)))) (by decide +kernel) rfl ⟨(by unfold cpOk; decide), trivial⟩ ?_
    replace h := h (mcp M9 8 27 (Int32.toNatClampNeg 0) (Int32.toNatClampNeg 0) (Int32.toNatClampNeg 3)) rfl
    generalize (mcp M9 8 27 (Int32.toNatClampNeg 0) (Int32.toNatClampNeg 0) (Int32.toNatClampNeg 3)) = M10 at h ⊢
    refine WP.blk [(.aload_n 1, 1, (0, 0), .null), (.getfield 44, 3, (1, 10), .null), (.iconst 0, 1, (0, 0), .int 0), (.aload_n 0, 1, (0, 0), .null), (.getfield 44, 3, (1, 10), .null), (.iconst 0, 1, (0, 0), .int 0), (.bipush 6, 2, (0, 0), .int 6), (.invokestatic 56, 3, (999, 5), .null)] (G := cpOk 0 0 6 6 6 ∧ True) (c' := (101, [some (.ref 26), some (.ref 7)], [], (mcp M10 9 28 (Int32.toNatClampNeg 0) (Int32.toNatClampNeg 0) (Int32.toNatClampNeg 6)))) (by decide +kernel) rfl ⟨(by unfold cpOk; decide), trivial⟩ ?_
    replace h := h (mcp M10 9 28 (Int32.toNatClampNeg 0) (Int32.toNatClampNeg 0) (Int32.toNatClampNeg 6)) rfl
    generalize (mcp M10 9 28 (Int32.toNatClampNeg 0) (Int32.toNatClampNeg 0) (Int32.toNatClampNeg 6)) = M11 at h ⊢
    refine WP.blk [(.aload_n 1, 1, (0, 0), .null), (.getfield 47, 3, (1, 11), .null), (.iconst 0, 1, (0, 0), .int 0), (.aload_n 0, 1, (0, 0), .null), (.getfield 47, 3, (1, 11), .null), (.iconst 0, 1, (0, 0), .int 0), (.bipush 6, 2, (0, 0), .int 6), (.invokestatic 56, 3, (999, 5), .null)] (G := cpOk 0 0 6 6 6 ∧ True) (c' := (116, [some (.ref 26), some (.ref 7)], [], (mcp M11 10 29 (Int32.toNatClampNeg 0) (Int32.toNatClampNeg 0) (Int32.toNatClampNeg 6)))) (by decide +kernel) rfl ⟨(by unfold cpOk; decide), trivial⟩ ?_
    replace h := h (mcp M11 10 29 (Int32.toNatClampNeg 0) (Int32.toNatClampNeg 0) (Int32.toNatClampNeg 6)) rfl
    generalize (mcp M11 10 29 (Int32.toNatClampNeg 0) (Int32.toNatClampNeg 0) (Int32.toNatClampNeg 6)) = M12 at h ⊢
    refine WP.blk [(.aload_n 1, 1, (0, 0), .null), (.getfield 50, 3, (1, 12), .null), (.iconst 0, 1, (0, 0), .int 0), (.aload_n 0, 1, (0, 0), .null), (.getfield 50, 3, (1, 12), .null), (.iconst 0, 1, (0, 0), .int 0), (.bipush 6, 2, (0, 0), .int 6), (.invokestatic 56, 3, (999, 5), .null)] (G := cpOk 0 0 6 6 6 ∧ True) (c' := (131, [some (.ref 26), some (.ref 7)], [], (mcp M12 11 30 (Int32.toNatClampNeg 0) (Int32.toNatClampNeg 0) (Int32.toNatClampNeg 6)))) (by decide +kernel) rfl ⟨(by unfold cpOk; decide), trivial⟩ ?_
    replace h := h (mcp M12 11 30 (Int32.toNatClampNeg 0) (Int32.toNatClampNeg 0) (Int32.toNatClampNeg 6)) rfl
    generalize (mcp M12 11 30 (Int32.toNatClampNeg 0) (Int32.toNatClampNeg 0) (Int32.toNatClampNeg 6)) = M13 at h ⊢
    refine WP.blk [(.aload_n 1, 1, (0, 0), .null), (.getfield 53, 3, (1, 13), .null), (.iconst 0, 1, (0, 0), .int 0), (.aload_n 0, 1, (0, 0), .null), (.getfield 53, 3, (1, 13), .null), (.iconst 0, 1, (0, 0), .int 0), (.bipush 6, 2, (0, 0), .int 6), (.invokestatic 56, 3, (999, 5), .null)] (G := cpOk 0 0 6 6 6 ∧ True) (c' := (146, [some (.ref 26), some (.ref 7)], [], (mcp M13 12 31 (Int32.toNatClampNeg 0) (Int32.toNatClampNeg 0) (Int32.toNatClampNeg 6)))) (by decide +kernel) rfl ⟨(by unfold cpOk; decide), trivial⟩ ?_
    replace h := h (mcp M13 12 31 (Int32.toNatClampNeg 0) (Int32.toNatClampNeg 0) (Int32.toNatClampNeg 6)) rfl
    generalize (mcp M13 12 31 (Int32.toNatClampNeg 0) (Int32.toNatClampNeg 0) (Int32.toNatClampNeg 6)) = M14 at h ⊢
    exact WP.ret (.return_, 1, (0, 0), .null) (rk := 0) (by decide +kernel) (by decide +kernel) rfl trivial (hΦ _ h)
  · refine Ct.go (n := 2) (E := [some (.ref 7), some (.ref 20)]) (by decide +kernel) (by simp [Value.category]) rfl ?_
    refine WP.blk [(.aload_n 0, 1, (0, 0), .null), (.aload_n 1, 1, (0, 0), .null), (.getfield 9, 3, (1, 0), .null), (.putfield 9, 3, (1, 0), .null)] (G := ((M 20 0) = 0 ∨ (M 20 0) = 1) ∧ True) (c' := (8, [some (.ref 7), some (.ref 20)], [], (mu M 7 0 (M 20 0)))) (by decide +kernel) rfl ⟨h.1, trivial⟩ ?_
    replace h := h.2
    replace h := h (mu M 7 0 (M 20 0)) rfl
    generalize (mu M 7 0 (M 20 0)) = M1 at h ⊢
    refine WP.blk [(.aload_n 0, 1, (0, 0), .null), (.aload_n 1, 1, (0, 0), .null), (.getfield 15, 3, (1, 1), .null), (.putfield 15, 3, (1, 1), .null)] (G := True) (c' := (16, [some (.ref 7), some (.ref 20)], [], (mu M1 7 1 (M1 20 1)))) (by decide +kernel) rfl trivial ?_
    replace h := h (mu M1 7 1 (M1 20 1)) rfl
    generalize (mu M1 7 1 (M1 20 1)) = M2 at h ⊢
    refine WP.blk [(.aload_n 0, 1, (0, 0), .null), (.aload_n 1, 1, (0, 0), .null), (.getfield 19, 3, (1, 2), .null), (.putfield 19, 3, (1, 2), .null)] (G := True) (c' := (24, [some (.ref 7), some (.ref 20)], [], (mu M2 7 2 (M2 20 2)))) (by decide +kernel) rfl trivial ?_
    replace h := h (mu M2 7 2 (M2 20 2)) rfl
    generalize (mu M2 7 2 (M2 20 2)) = M3 at h ⊢
    refine WP.blk [(.aload_n 0, 1, (0, 0), .null), (.aload_n 1, 1, (0, 0), .null), (.getfield 22, 3, (1, 3), .null), (.putfield 22, 3, (1, 3), .null)] (G := True) (c' := (32, [some (.ref 7), some (.ref 20)], [], (mu M3 7 3 (M3 20 3)))) (by decide +kernel) rfl trivial ?_
    replace h := h (mu M3 7 3 (M3 20 3)) rfl
    generalize (mu M3 7 3 (M3 20 3)) = M4 at h ⊢
    refine WP.blk [(.aload_n 0, 1, (0, 0), .null), (.aload_n 1, 1, (0, 0), .null), (.getfield 25, 3, (1, 4), .null), (.putfield 25, 3, (1, 4), .null)] (G := True) (c' := (40, [some (.ref 7), some (.ref 20)], [], (mu M4 7 4 (M4 20 4)))) (by decide +kernel) rfl trivial ?_
    replace h := h (mu M4 7 4 (M4 20 4)) rfl
    generalize (mu M4 7 4 (M4 20 4)) = M5 at h ⊢
    refine WP.blk [(.aload_n 0, 1, (0, 0), .null), (.aload_n 1, 1, (0, 0), .null), (.getfield 28, 3, (1, 5), .null), (.putfield 28, 3, (1, 5), .null)] (G := True) (c' := (48, [some (.ref 7), some (.ref 20)], [], (mu M5 7 5 (M5 20 5)))) (by decide +kernel) rfl trivial ?_
    replace h := h (mu M5 7 5 (M5 20 5)) rfl
    generalize (mu M5 7 5 (M5 20 5)) = M6 at h ⊢
    refine WP.blk [(.aload_n 0, 1, (0, 0), .null), (.aload_n 1, 1, (0, 0), .null), (.getfield 31, 3, (1, 6), .null), (.putfield 31, 3, (1, 6), .null)] (G := True) (c' := (56, [some (.ref 7), some (.ref 20)], [], (mu M6 7 6 (M6 20 6)))) (by decide +kernel) rfl trivial ?_
    replace h := h (mu M6 7 6 (M6 20 6)) rfl
    generalize (mu M6 7 6 (M6 20 6)) = M7 at h ⊢
    refine WP.blk [(.aload_n 0, 1, (0, 0), .null), (.aload_n 1, 1, (0, 0), .null), (.getfield 34, 3, (1, 7), .null), (.putfield 34, 3, (1, 7), .null)] (G := True) (c' := (64, [some (.ref 7), some (.ref 20)], [], (mu M7 7 7 (M7 20 7)))) (by decide +kernel) rfl trivial ?_
    replace h := h (mu M7 7 7 (M7 20 7)) rfl
    generalize (mu M7 7 7 (M7 20 7)) = M8 at h ⊢
    refine WP.blk [(.aload_n 0, 1, (0, 0), .null), (.aload_n 1, 1, (0, 0), .null), (.getfield 37, 3, (1, 8), .null), (.putfield 37, 3, (1, 8), .null)] (G := True) (c' := (72, [some (.ref 7), some (.ref 20)], [], (mu M8 7 8 (M8 20 8)))) (by decide +kernel) rfl trivial ?_
    replace h := h (mu M8 7 8 (M8 20 8)) rfl
    generalize (mu M8 7 8 (M8 20 8)) = M9 at h ⊢
    refine WP.blk [(.aload_n 1, 1, (0, 0), .null), (.getfield 40, 3, (1, 9), .null), (.iconst 0, 1, (0, 0), .int 0), (.aload_n 0, 1, (0, 0), .null), (.getfield 40, 3, (1, 9), .null), (.iconst 0, 1, (0, 0), .int 0), (.iconst 3, 1, (0, 0), .int 3), (.invokestatic 56, 3, (999, 5), .null)] (G := cpOk 0 0 3 3 3 ∧ True) (c' := (86, [some (.ref 7), some (.ref 20)], [], (mcp M9 21 8 (Int32.toNatClampNeg 0) (Int32.toNatClampNeg 0) (Int32.toNatClampNeg 3)))) (by decide +kernel) rfl ⟨(by unfold cpOk; decide), trivial⟩ ?_
    replace h := h (mcp M9 21 8 (Int32.toNatClampNeg 0) (Int32.toNatClampNeg 0) (Int32.toNatClampNeg 3)) rfl
    generalize (mcp M9 21 8 (Int32.toNatClampNeg 0) (Int32.toNatClampNeg 0) (Int32.toNatClampNeg 3)) = M10 at h ⊢
    refine WP.blk [(.aload_n 1, 1, (0, 0), .null), (.getfield 44, 3, (1, 10), .null), (.iconst 0, 1, (0, 0), .int 0), (.aload_n 0, 1, (0, 0), .null), (.getfield 44, 3, (1, 10), .null), (.iconst 0, 1, (0, 0), .int 0), (.bipush 6, 2, (0, 0), .int 6), (.invokestatic 56, 3, (999, 5), .null)] (G := cpOk 0 0 6 6 6 ∧ True) (c' := (101, [some (.ref 7), some (.ref 20)], [], (mcp M10 22 9 (Int32.toNatClampNeg 0) (Int32.toNatClampNeg 0) (Int32.toNatClampNeg 6)))) (by decide +kernel) rfl ⟨(by unfold cpOk; decide), trivial⟩ ?_
    replace h := h (mcp M10 22 9 (Int32.toNatClampNeg 0) (Int32.toNatClampNeg 0) (Int32.toNatClampNeg 6)) rfl
    generalize (mcp M10 22 9 (Int32.toNatClampNeg 0) (Int32.toNatClampNeg 0) (Int32.toNatClampNeg 6)) = M11 at h ⊢
    refine WP.blk [(.aload_n 1, 1, (0, 0), .null), (.getfield 47, 3, (1, 11), .null), (.iconst 0, 1, (0, 0), .int 0), (.aload_n 0, 1, (0, 0), .null), (.getfield 47, 3, (1, 11), .null), (.iconst 0, 1, (0, 0), .int 0), (.bipush 6, 2, (0, 0), .int 6), (.invokestatic 56, 3, (999, 5), .null)] (G := cpOk 0 0 6 6 6 ∧ True) (c' := (116, [some (.ref 7), some (.ref 20)], [], (mcp M11 23 10 (Int32.toNatClampNeg 0) (Int32.toNatClampNeg 0) (Int32.toNatClampNeg 6)))) (by decide +kernel) rfl ⟨(by unfold cpOk; decide), trivial⟩ ?_
    replace h := h (mcp M11 23 10 (Int32.toNatClampNeg 0) (Int32.toNatClampNeg 0) (Int32.toNatClampNeg 6)) rfl
    generalize (mcp M11 23 10 (Int32.toNatClampNeg 0) (Int32.toNatClampNeg 0) (Int32.toNatClampNeg 6)) = M12 at h ⊢
    refine WP.blk [(.aload_n 1, 1, (0, 0), .null), (.getfield 50, 3, (1, 12), .null), (.iconst 0, 1, (0, 0), .int 0), (.aload_n 0, 1, (0, 0), .null), (.getfield 50, 3, (1, 12), .null), (.iconst 0, 1, (0, 0), .int 0), (.bipush 6, 2, (0, 0), .int 6), (.invokestatic 56, 3, (999, 5), .null)] (G := cpOk 0 0 6 6 6 ∧ True) (c' := (131, [some (.ref 7), some (.ref 20)], [], (mcp M12 24 11 (Int32.toNatClampNeg 0) (Int32.toNatClampNeg 0) (Int32.toNatClampNeg 6)))) (by decide +kernel) rfl ⟨(by unfold cpOk; decide), trivial⟩ ?_
    replace h := h (mcp M12 24 11 (Int32.toNatClampNeg 0) (Int32.toNatClampNeg 0) (Int32.toNatClampNeg 6)) rfl
    generalize (mcp M12 24 11 (Int32.toNatClampNeg 0) (Int32.toNatClampNeg 0) (Int32.toNatClampNeg 6)) = M13 at h ⊢
    refine WP.blk [(.aload_n 1, 1, (0, 0), .null), (.getfield 53, 3, (1, 13), .null), (.iconst 0, 1, (0, 0), .int 0), (.aload_n 0, 1, (0, 0), .null), (.getfield 53, 3, (1, 13), .null), (.iconst 0, 1, (0, 0), .int 0), (.bipush 6, 2, (0, 0), .int 6), (.invokestatic 56, 3, (999, 5), .null)] (G := cpOk 0 0 6 6 6 ∧ True) (c' := (146, [some (.ref 7), some (.ref 20)], [], (mcp M13 25 12 (Int32.toNatClampNeg 0) (Int32.toNatClampNeg 0) (Int32.toNatClampNeg 6)))) (by decide +kernel) rfl ⟨(by unfold cpOk; decide), trivial⟩ ?_
    replace h := h (mcp M13 25 12 (Int32.toNatClampNeg 0) (Int32.toNatClampNeg 0) (Int32.toNatClampNeg 6)) rfl
    generalize (mcp M13 25 12 (Int32.toNatClampNeg 0) (Int32.toNatClampNeg 0) (Int32.toNatClampNeg 6)) = M14 at h ⊢
    exact WP.ret (.return_, 1, (0, 0), .null) (rk := 0) (by decide +kernel) (by decide +kernel) rfl trivial (hΦ _ h)
  · refine Ct.go (n := 2) (E := [some (.ref 7), some (.ref 26)]) (by decide +kernel) (by simp [Value.category]) rfl ?_
    refine WP.blk [(.aload_n 0, 1, (0, 0), .null), (.aload_n 1, 1, (0, 0), .null), (.getfield 9, 3, (1, 0), .null), (.putfield 9, 3, (1, 0), .null)] (G := ((M 26 0) = 0 ∨ (M 26 0) = 1) ∧ True) (c' := (8, [some (.ref 7), some (.ref 26)], [], (mu M 7 0 (M 26 0)))) (by decide +kernel) rfl ⟨h.1, trivial⟩ ?_
    replace h := h.2
    replace h := h (mu M 7 0 (M 26 0)) rfl
    generalize (mu M 7 0 (M 26 0)) = M1 at h ⊢
    refine WP.blk [(.aload_n 0, 1, (0, 0), .null), (.aload_n 1, 1, (0, 0), .null), (.getfield 15, 3, (1, 1), .null), (.putfield 15, 3, (1, 1), .null)] (G := True) (c' := (16, [some (.ref 7), some (.ref 26)], [], (mu M1 7 1 (M1 26 1)))) (by decide +kernel) rfl trivial ?_
    replace h := h (mu M1 7 1 (M1 26 1)) rfl
    generalize (mu M1 7 1 (M1 26 1)) = M2 at h ⊢
    refine WP.blk [(.aload_n 0, 1, (0, 0), .null), (.aload_n 1, 1, (0, 0), .null), (.getfield 19, 3, (1, 2), .null), (.putfield 19, 3, (1, 2), .null)] (G := True) (c' := (24, [some (.ref 7), some (.ref 26)], [], (mu M2 7 2 (M2 26 2)))) (by decide +kernel) rfl trivial ?_
    replace h := h (mu M2 7 2 (M2 26 2)) rfl
    generalize (mu M2 7 2 (M2 26 2)) = M3 at h ⊢
    refine WP.blk [(.aload_n 0, 1, (0, 0), .null), (.aload_n 1, 1, (0, 0), .null), (.getfield 22, 3, (1, 3), .null), (.putfield 22, 3, (1, 3), .null)] (G := True) (c' := (32, [some (.ref 7), some (.ref 26)], [], (mu M3 7 3 (M3 26 3)))) (by decide +kernel) rfl trivial ?_
    replace h := h (mu M3 7 3 (M3 26 3)) rfl
    generalize (mu M3 7 3 (M3 26 3)) = M4 at h ⊢
    refine WP.blk [(.aload_n 0, 1, (0, 0), .null), (.aload_n 1, 1, (0, 0), .null), (.getfield 25, 3, (1, 4), .null), (.putfield 25, 3, (1, 4), .null)] (G := True) (c' := (40, [some (.ref 7), some (.ref 26)], [], (mu M4 7 4 (M4 26 4)))) (by decide +kernel) rfl trivial ?_
    replace h := h (mu M4 7 4 (M4 26 4)) rfl
    generalize (mu M4 7 4 (M4 26 4)) = M5 at h ⊢
    refine WP.blk [(.aload_n 0, 1, (0, 0), .null), (.aload_n 1, 1, (0, 0), .null), (.getfield 28, 3, (1, 5), .null), (.putfield 28, 3, (1, 5), .null)] (G := True) (c' := (48, [some (.ref 7), some (.ref 26)], [], (mu M5 7 5 (M5 26 5)))) (by decide +kernel) rfl trivial ?_
    replace h := h (mu M5 7 5 (M5 26 5)) rfl
    generalize (mu M5 7 5 (M5 26 5)) = M6 at h ⊢
    refine WP.blk [(.aload_n 0, 1, (0, 0), .null), (.aload_n 1, 1, (0, 0), .null), (.getfield 31, 3, (1, 6), .null), (.putfield 31, 3, (1, 6), .null)] (G := True) (c' := (56, [some (.ref 7), some (.ref 26)], [], (mu M6 7 6 (M6 26 6)))) (by decide +kernel) rfl trivial ?_
    replace h := h (mu M6 7 6 (M6 26 6)) rfl
    generalize (mu M6 7 6 (M6 26 6)) = M7 at h ⊢
    refine WP.blk [(.aload_n 0, 1, (0, 0), .null), (.aload_n 1, 1, (0, 0), .null), (.getfield 34, 3, (1, 7), .null), (.putfield 34, 3, (1, 7), .null)] (G := True) (c' := (64, [some (.ref 7), some (.ref 26)], [], (mu M7 7 7 (M7 26 7)))) (by decide +kernel) rfl trivial ?_
    replace h := h (mu M7 7 7 (M7 26 7)) rfl
    generalize (mu M7 7 7 (M7 26 7)) = M8 at h ⊢
    refine WP.blk [(.aload_n 0, 1, (0, 0), .null), (.aload_n 1, 1, (0, 0), .null), (.getfield 37, 3, (1, 8), .null), (.putfield 37, 3, (1, 8), .null)] (G := True) (c' := (72, [some (.ref 7), some (.ref 26)], [], (mu M8 7 8 (M8 26 8)))) (by decide +kernel) rfl trivial ?_
    replace h := h (mu M8 7 8 (M8 26 8)) rfl
    generalize (mu M8 7 8 (M8 26 8)) = M9 at h ⊢
    refine WP.blk [(.aload_n 1, 1, (0, 0), .null), (.getfield 40, 3, (1, 9), .null), (.iconst 0, 1, (0, 0), .int 0), (.aload_n 0, 1, (0, 0), .null), (.getfield 40, 3, (1, 9), .null), (.iconst 0, 1, (0, 0), .int 0), (.iconst 3, 1, (0, 0), .int 3), (.invokestatic 56, 3, (999, 5), .null)] (G := cpOk 0 0 3 3 3 ∧ True) (c' := (86, [some (.ref 7), some (.ref 26)], [], (mcp M9 27 8 (Int32.toNatClampNeg 0) (Int32.toNatClampNeg 0) (Int32.toNatClampNeg 3)))) (by decide +kernel) rfl ⟨(by unfold cpOk; decide), trivial⟩ ?_
    replace h := h (mcp M9 27 8 (Int32.toNatClampNeg 0) (Int32.toNatClampNeg 0) (Int32.toNatClampNeg 3)) rfl
    generalize (mcp M9 27 8 (Int32.toNatClampNeg 0) (Int32.toNatClampNeg 0) (Int32.toNatClampNeg 3)) = M10 at h ⊢
    refine WP.blk [(.aload_n 1, 1, (0, 0), .null), (.getfield 44, 3, (1, 10), .null), (.iconst 0, 1, (0, 0), .int 0), (.aload_n 0, 1, (0, 0), .null), (.getfield 44, 3, (1, 10), .null), (.iconst 0, 1, (0, 0), .int 0), (.bipush 6, 2, (0, 0), .int 6), (.invokestatic 56, 3, (999, 5), .null)] (G := cpOk 0 0 6 6 6 ∧ True) (c' := (101, [some (.ref 7), some (.ref 26)], [], (mcp M10 28 9 (Int32.toNatClampNeg 0) (Int32.toNatClampNeg 0) (Int32.toNatClampNeg 6)))) (by decide +kernel) rfl ⟨(by unfold cpOk; decide), trivial⟩ ?_
    replace h := h (mcp M10 28 9 (Int32.toNatClampNeg 0) (Int32.toNatClampNeg 0) (Int32.toNatClampNeg 6)) rfl
    generalize (mcp M10 28 9 (Int32.toNatClampNeg 0) (Int32.toNatClampNeg 0) (Int32.toNatClampNeg 6)) = M11 at h ⊢
    refine WP.blk [(.aload_n 1, 1, (0, 0), .null), (.getfield 47, 3, (1, 11), .null), (.iconst 0, 1, (0, 0), .int 0), (.aload_n 0, 1, (0, 0), .null), (.getfield 47, 3, (1, 11), .null), (.iconst 0, 1, (0, 0), .int 0), (.bipush 6, 2, (0, 0), .int 6), (.invokestatic 56, 3, (999, 5), .null)] (G := cpOk 0 0 6 6 6 ∧ True) (c' := (116, [some (.ref 7), some (.ref 26)], [], (mcp M11 29 10 (Int32.toNatClampNeg 0) (Int32.toNatClampNeg 0) (Int32.toNatClampNeg 6)))) (by decide +kernel) rfl ⟨(by unfold cpOk; decide), trivial⟩ ?_
    replace h := h (mcp M11 29 10 (Int32.toNatClampNeg 0) (Int32.toNatClampNeg 0) (Int32.toNatClampNeg 6)) rfl
    generalize (mcp M11 29 10 (Int32.toNatClampNeg 0) (Int32.toNatClampNeg 0) (Int32.toNatClampNeg 6)) = M12 at h ⊢
    refine WP.blk [(.aload_n 1, 1, (0, 0), .null), (.getfield 50, 3, (1, 12), .null), (.iconst 0, 1, (0, 0), .int 0), (.aload_n 0, 1, (0, 0), .null), (.getfield 50, 3, (1, 12), .null), (.iconst 0, 1, (0, 0), .int 0), (.bipush 6, 2, (0, 0), .int 6), (.invokestatic 56, 3, (999, 5), .null)] (G := cpOk 0 0 6 6 6 ∧ True) (c' := (131, [some (.ref 7), some (.ref 26)], [], (mcp M12 30 11 (Int32.toNatClampNeg 0) (Int32.toNatClampNeg 0) (Int32.toNatClampNeg 6)))) (by decide +kernel) rfl ⟨(by unfold cpOk; decide), trivial⟩ ?_
    replace h := h (mcp M12 30 11 (Int32.toNatClampNeg 0) (Int32.toNatClampNeg 0) (Int32.toNatClampNeg 6)) rfl
    generalize (mcp M12 30 11 (Int32.toNatClampNeg 0) (Int32.toNatClampNeg 0) (Int32.toNatClampNeg 6)) = M13 at h ⊢
    refine WP.blk [(.aload_n 1, 1, (0, 0), .null), (.getfield 53, 3, (1, 13), .null), (.iconst 0, 1, (0, 0), .int 0), (.aload_n 0, 1, (0, 0), .null), (.getfield 53, 3, (1, 13), .null), (.iconst 0, 1, (0, 0), .int 0), (.bipush 6, 2, (0, 0), .int 6), (.invokestatic 56, 3, (999, 5), .null)] (G := cpOk 0 0 6 6 6 ∧ True) (c' := (146, [some (.ref 7), some (.ref 26)], [], (mcp M13 31 12 (Int32.toNatClampNeg 0) (Int32.toNatClampNeg 0) (Int32.toNatClampNeg 6)))) (by decide +kernel) rfl ⟨(by unfold cpOk; decide), trivial⟩ ?_
    replace h := h (mcp M13 31 12 (Int32.toNatClampNeg 0) (Int32.toNatClampNeg 0) (Int32.toNatClampNeg 6)) rfl
    generalize (mcp M13 31 12 (Int32.toNatClampNeg 0) (Int32.toNatClampNeg 0) (Int32.toNatClampNeg 6)) = M14 at h ⊢
    exact WP.ret (.return_, 1, (0, 0), .null) (rk := 0) (by decide +kernel) (by decide +kernel) rfl trivial (hΦ _ h)
/-- GearRoad.within(III)Z -/
def S_within (M : Mm) (a1 : Int32) (a2 : Int32) (a3 : Int32) (Φ : Int32 → Prop) : Prop := ((a1 < a2 → Φ 0) ∧ (¬ (a1 < a2) → ((a3 < a1 → Φ 0) ∧ (¬ (a3 < a1) → Φ 1))))
set_option maxRecDepth 100000 in
set_option maxHeartbeats 4000000 in
theorem sp_within {d : Nat} {Post : Option Value → Mm → Prop} {M : Mm} {a1 : Int32} {a2 : Int32} {a3 : Int32} {Φ : Int32 → Prop} (h : S_within M a1 a2 a3 Φ) (hΦ : ∀ r, Φ r → Post (some (.int r)) M) : Ct (d + 1) 10 [.int a1, .int a2, .int a3] M Post := by
  refine Ct.go (n := 3) (E := [some (.int a1), some (.int a2), some (.int a3)]) (by decide +kernel) (by simp [Value.category]) rfl ?_
  refine WP.blk [(.iload_n 0, 1, (0, 0), .null), (.iload_n 1, 1, (0, 0), .null)] (G := True) (c' := (2, [some (.int a1), some (.int a2), some (.int a3)], [.int a2, .int a1], M)) (by decide +kernel) rfl trivial ?_
  refine WP.br (.if_icmp .lt 12, 3, (14, 0), .null) (by decide +kernel) rfl (fun c1 => ?_) (fun c1 => ?_)
  · replace h := h.1 c1
    refine WP.blk [(.iconst 0, 1, (0, 0), .int 0)] (G := True) (c' := (15, [some (.int a1), some (.int a2), some (.int a3)], [.int 0], M)) (by decide +kernel) rfl trivial ?_
    exact WP.ret (.ireturn, 1, (0, 0), .null) (rk := 2) (by decide +kernel) (by decide +kernel) rfl (by decide) (hΦ _ h)
  · replace h := h.2 c1
    refine WP.blk [(.iload_n 0, 1, (0, 0), .null), (.iload_n 2, 1, (0, 0), .null)] (G := True) (c' := (7, [some (.int a1), some (.int a2), some (.int a3)], [.int a3, .int a1], M)) (by decide +kernel) rfl trivial ?_
    refine WP.br (.if_icmp .gt 7, 3, (14, 0), .null) (by decide +kernel) rfl (fun c2 => ?_) (fun c2 => ?_)
    · replace h := h.1 c2
      refine WP.blk [(.iconst 0, 1, (0, 0), .int 0)] (G := True) (c' := (15, [some (.int a1), some (.int a2), some (.int a3)], [.int 0], M)) (by decide +kernel) rfl trivial ?_
      exact WP.ret (.ireturn, 1, (0, 0), .null) (rk := 2) (by decide +kernel) (by decide +kernel) rfl (by decide) (hΦ _ h)
    · replace h := h.2 c2
      refine WP.blk [(.iconst 1, 1, (0, 0), .int 1), (.goto 4, 3, (15, 0), .null)] (G := True) (c' := (15, [some (.int a1), some (.int a2), some (.int a3)], [.int 1], M)) (by decide +kernel) rfl trivial ?_
      exact WP.ret (.ireturn, 1, (0, 0), .null) (rk := 2) (by decide +kernel) (by decide +kernel) rfl (by decide) (hΦ _ h)
/-- GearRoad$Bike.hasRing(I)Z -/
def S_Bike_hasRing (k : Nat) (M : Mm) (a1 : Int32) (Φ : Int32 → Prop) : Prop := S_within M a1 0 ((M k 1) - 1) (fun r1 => ((r1 = 0 ∨ r1 = 1) ∧ Φ r1))
set_option maxRecDepth 100000 in
set_option maxHeartbeats 4000000 in
theorem sp_Bike_hasRing {d : Nat} {Post : Option Value → Mm → Prop} {k : Nat} {M : Mm} {a1 : Int32} {Φ : Int32 → Prop} (hk : k = 7 ∨ k = 13) (h : S_Bike_hasRing k M a1 Φ) (hΦ : ∀ r, Φ r → Post (some (.int r)) M) : Ct (d + 2) 49 [.ref k, .int a1] M Post := by
  rcases hk with rfl | rfl
  · refine Ct.go (n := 2) (E := [some (.ref 7), some (.int a1)]) (by decide +kernel) (by simp [Value.category]) rfl ?_
    refine WP.blk [(.iload_n 1, 1, (0, 0), .null), (.iconst 0, 1, (0, 0), .int 0), (.aload_n 0, 1, (0, 0), .null), (.getfield 15, 3, (1, 1), .null), (.iconst 1, 1, (0, 0), .int 1), (.isub, 1, (0, 0), .null)] (G := True) (c' := (8, [some (.ref 7), some (.int a1)], [.int ((M 7 1) - 1), .int 0, .int a1], M)) (by decide +kernel) rfl trivial ?_
    refine WP.call (.invokestatic 62, 3, (10, 3), .null) (by decide +kernel) rfl (sp_within (d := d + 0) h (fun r1 h => ?_))
    show WP (Ct (d + 1)) 49 Post (11, [some (.ref 7), some (.int a1)], [.int r1], M)
    exact WP.ret (.ireturn, 1, (0, 0), .null) (rk := 2) (by decide +kernel) (by decide +kernel) rfl h.1 (hΦ _ h.2)
  · refine Ct.go (n := 2) (E := [some (.ref 13), some (.int a1)]) (by decide +kernel) (by simp [Value.category]) rfl ?_
    refine WP.blk [(.iload_n 1, 1, (0, 0), .null), (.iconst 0, 1, (0, 0), .int 0), (.aload_n 0, 1, (0, 0), .null), (.getfield 15, 3, (1, 1), .null), (.iconst 1, 1, (0, 0), .int 1), (.isub, 1, (0, 0), .null)] (G := True) (c' := (8, [some (.ref 13), some (.int a1)], [.int ((M 13 1) - 1), .int 0, .int a1], M)) (by decide +kernel) rfl trivial ?_
    refine WP.call (.invokestatic 62, 3, (10, 3), .null) (by decide +kernel) rfl (sp_within (d := d + 0) h (fun r1 h => ?_))
    show WP (Ct (d + 1)) 49 Post (11, [some (.ref 13), some (.int a1)], [.int r1], M)
    exact WP.ret (.ireturn, 1, (0, 0), .null) (rk := 2) (by decide +kernel) (by decide +kernel) rfl h.1 (hΦ _ h.2)
/-- GearRoad$Bike.hasCog(I)Z -/
def S_Bike_hasCog (k : Nat) (M : Mm) (a1 : Int32) (Φ : Int32 → Prop) : Prop := S_within M a1 0 ((M k 2) - 1) (fun r1 => ((r1 = 0 ∨ r1 = 1) ∧ Φ r1))
set_option maxRecDepth 100000 in
set_option maxHeartbeats 4000000 in
theorem sp_Bike_hasCog {d : Nat} {Post : Option Value → Mm → Prop} {k : Nat} {M : Mm} {a1 : Int32} {Φ : Int32 → Prop} (hk : k = 7 ∨ k = 13) (h : S_Bike_hasCog k M a1 Φ) (hΦ : ∀ r, Φ r → Post (some (.int r)) M) : Ct (d + 2) 50 [.ref k, .int a1] M Post := by
  rcases hk with rfl | rfl
  · refine Ct.go (n := 2) (E := [some (.ref 7), some (.int a1)]) (by decide +kernel) (by simp [Value.category]) rfl ?_
    refine WP.blk [(.iload_n 1, 1, (0, 0), .null), (.iconst 0, 1, (0, 0), .int 0), (.aload_n 0, 1, (0, 0), .null), (.getfield 19, 3, (1, 2), .null), (.iconst 1, 1, (0, 0), .int 1), (.isub, 1, (0, 0), .null)] (G := True) (c' := (8, [some (.ref 7), some (.int a1)], [.int ((M 7 2) - 1), .int 0, .int a1], M)) (by decide +kernel) rfl trivial ?_
    refine WP.call (.invokestatic 62, 3, (10, 3), .null) (by decide +kernel) rfl (sp_within (d := d + 0) h (fun r1 h => ?_))
    show WP (Ct (d + 1)) 50 Post (11, [some (.ref 7), some (.int a1)], [.int r1], M)
    exact WP.ret (.ireturn, 1, (0, 0), .null) (rk := 2) (by decide +kernel) (by decide +kernel) rfl h.1 (hΦ _ h.2)
  · refine Ct.go (n := 2) (E := [some (.ref 13), some (.int a1)]) (by decide +kernel) (by simp [Value.category]) rfl ?_
    refine WP.blk [(.iload_n 1, 1, (0, 0), .null), (.iconst 0, 1, (0, 0), .int 0), (.aload_n 0, 1, (0, 0), .null), (.getfield 19, 3, (1, 2), .null), (.iconst 1, 1, (0, 0), .int 1), (.isub, 1, (0, 0), .null)] (G := True) (c' := (8, [some (.ref 13), some (.int a1)], [.int ((M 13 2) - 1), .int 0, .int a1], M)) (by decide +kernel) rfl trivial ?_
    refine WP.call (.invokestatic 62, 3, (10, 3), .null) (by decide +kernel) rfl (sp_within (d := d + 0) h (fun r1 h => ?_))
    show WP (Ct (d + 1)) 50 Post (11, [some (.ref 13), some (.int a1)], [.int r1], M)
    exact WP.ret (.ireturn, 1, (0, 0), .null) (rk := 2) (by decide +kernel) (by decide +kernel) rfl h.1 (hΦ _ h.2)
/-- GearRoad$Bike.hasGear(I)Z -/
def S_Bike_hasGear (k : Nat) (M : Mm) (a1 : Int32) (Φ : Int32 → Prop) : Prop := ((a1 < 0 → Φ 0) ∧ (¬ (a1 < 0) → S_Bike_hasRing k M (a1 / 6) (fun r2 => ((r2 = 0 → Φ 0) ∧ (¬ (r2 = 0) → S_Bike_hasCog k M (irm a1 6) (fun r4 => ((r4 = 0 → Φ 0) ∧ (¬ (r4 = 0) → Φ 1))))))))
set_option maxRecDepth 100000 in
set_option maxHeartbeats 4000000 in
theorem sp_Bike_hasGear {d : Nat} {Post : Option Value → Mm → Prop} {k : Nat} {M : Mm} {a1 : Int32} {Φ : Int32 → Prop} (hk : k = 7 ∨ k = 13) (h : S_Bike_hasGear k M a1 Φ) (hΦ : ∀ r, Φ r → Post (some (.int r)) M) : Ct (d + 3) 48 [.ref k, .int a1] M Post := by
  rcases hk with rfl | rfl
  · refine Ct.go (n := 2) (E := [some (.ref 7), some (.int a1)]) (by decide +kernel) (by simp [Value.category]) rfl ?_
    refine WP.blk [(.iload_n 1, 1, (0, 0), .null)] (G := True) (c' := (1, [some (.ref 7), some (.int a1)], [.int a1], M)) (by decide +kernel) rfl trivial ?_
    refine WP.br (.ifCond .lt 29, 3, (30, 0), .null) (by decide +kernel) rfl (fun c1 => ?_) (fun c1 => ?_)
    · replace h := h.1 c1
      refine WP.blk [(.iconst 0, 1, (0, 0), .int 0)] (G := True) (c' := (31, [some (.ref 7), some (.int a1)], [.int 0], M)) (by decide +kernel) rfl trivial ?_
      exact WP.ret (.ireturn, 1, (0, 0), .null) (rk := 2) (by decide +kernel) (by decide +kernel) rfl (by decide) (hΦ _ h)
    · replace h := h.2 c1
      refine WP.blk [(.aload_n 0, 1, (0, 0), .null), (.iload_n 1, 1, (0, 0), .null), (.bipush 6, 2, (0, 0), .int 6), (.idiv, 1, (0, 0), .null)] (G := ¬ (6 : Int32) = 0 ∧ True) (c' := (9, [some (.ref 7), some (.int a1)], [.int (a1 / 6), .ref 7], M)) (by decide +kernel) rfl ⟨(by decide), trivial⟩ ?_
      refine WP.call (.invokevirtual 66, 3, (49, 2), .retAddr 1) (by decide +kernel) rfl (sp_Bike_hasRing (d := d + 0) (by decide) h (fun r2 h => ?_))
      show WP (Ct (d + 2)) 48 Post (12, [some (.ref 7), some (.int a1)], [.int r2], M)
      refine WP.br (.ifCond .eq 18, 3, (30, 0), .null) (by decide +kernel) rfl (fun c3 => ?_) (fun c3 => ?_)
      · replace h := h.1 c3
        refine WP.blk [(.iconst 0, 1, (0, 0), .int 0)] (G := True) (c' := (31, [some (.ref 7), some (.int a1)], [.int 0], M)) (by decide +kernel) rfl trivial ?_
        exact WP.ret (.ireturn, 1, (0, 0), .null) (rk := 2) (by decide +kernel) (by decide +kernel) rfl (by decide) (hΦ _ h)
      · replace h := h.2 c3
        refine WP.blk [(.aload_n 0, 1, (0, 0), .null), (.iload_n 1, 1, (0, 0), .null), (.bipush 6, 2, (0, 0), .int 6), (.irem, 1, (0, 0), .null)] (G := ¬ (6 : Int32) = 0 ∧ True) (c' := (20, [some (.ref 7), some (.int a1)], [.int (irm a1 6), .ref 7], M)) (by decide +kernel) rfl ⟨(by decide), trivial⟩ ?_
        refine WP.call (.invokevirtual 70, 3, (50, 2), .retAddr 1) (by decide +kernel) rfl (sp_Bike_hasCog (d := d + 0) (by decide) h (fun r4 h => ?_))
        show WP (Ct (d + 2)) 48 Post (23, [some (.ref 7), some (.int a1)], [.int r4], M)
        refine WP.br (.ifCond .eq 7, 3, (30, 0), .null) (by decide +kernel) rfl (fun c5 => ?_) (fun c5 => ?_)
        · replace h := h.1 c5
          refine WP.blk [(.iconst 0, 1, (0, 0), .int 0)] (G := True) (c' := (31, [some (.ref 7), some (.int a1)], [.int 0], M)) (by decide +kernel) rfl trivial ?_
          exact WP.ret (.ireturn, 1, (0, 0), .null) (rk := 2) (by decide +kernel) (by decide +kernel) rfl (by decide) (hΦ _ h)
        · replace h := h.2 c5
          refine WP.blk [(.iconst 1, 1, (0, 0), .int 1), (.goto 4, 3, (31, 0), .null)] (G := True) (c' := (31, [some (.ref 7), some (.int a1)], [.int 1], M)) (by decide +kernel) rfl trivial ?_
          exact WP.ret (.ireturn, 1, (0, 0), .null) (rk := 2) (by decide +kernel) (by decide +kernel) rfl (by decide) (hΦ _ h)
  · refine Ct.go (n := 2) (E := [some (.ref 13), some (.int a1)]) (by decide +kernel) (by simp [Value.category]) rfl ?_
    refine WP.blk [(.iload_n 1, 1, (0, 0), .null)] (G := True) (c' := (1, [some (.ref 13), some (.int a1)], [.int a1], M)) (by decide +kernel) rfl trivial ?_
    refine WP.br (.ifCond .lt 29, 3, (30, 0), .null) (by decide +kernel) rfl (fun c1 => ?_) (fun c1 => ?_)
    · replace h := h.1 c1
      refine WP.blk [(.iconst 0, 1, (0, 0), .int 0)] (G := True) (c' := (31, [some (.ref 13), some (.int a1)], [.int 0], M)) (by decide +kernel) rfl trivial ?_
      exact WP.ret (.ireturn, 1, (0, 0), .null) (rk := 2) (by decide +kernel) (by decide +kernel) rfl (by decide) (hΦ _ h)
    · replace h := h.2 c1
      refine WP.blk [(.aload_n 0, 1, (0, 0), .null), (.iload_n 1, 1, (0, 0), .null), (.bipush 6, 2, (0, 0), .int 6), (.idiv, 1, (0, 0), .null)] (G := ¬ (6 : Int32) = 0 ∧ True) (c' := (9, [some (.ref 13), some (.int a1)], [.int (a1 / 6), .ref 13], M)) (by decide +kernel) rfl ⟨(by decide), trivial⟩ ?_
      refine WP.call (.invokevirtual 66, 3, (49, 2), .retAddr 1) (by decide +kernel) rfl (sp_Bike_hasRing (d := d + 0) (by decide) h (fun r2 h => ?_))
      show WP (Ct (d + 2)) 48 Post (12, [some (.ref 13), some (.int a1)], [.int r2], M)
      refine WP.br (.ifCond .eq 18, 3, (30, 0), .null) (by decide +kernel) rfl (fun c3 => ?_) (fun c3 => ?_)
      · replace h := h.1 c3
        refine WP.blk [(.iconst 0, 1, (0, 0), .int 0)] (G := True) (c' := (31, [some (.ref 13), some (.int a1)], [.int 0], M)) (by decide +kernel) rfl trivial ?_
        exact WP.ret (.ireturn, 1, (0, 0), .null) (rk := 2) (by decide +kernel) (by decide +kernel) rfl (by decide) (hΦ _ h)
      · replace h := h.2 c3
        refine WP.blk [(.aload_n 0, 1, (0, 0), .null), (.iload_n 1, 1, (0, 0), .null), (.bipush 6, 2, (0, 0), .int 6), (.irem, 1, (0, 0), .null)] (G := ¬ (6 : Int32) = 0 ∧ True) (c' := (20, [some (.ref 13), some (.int a1)], [.int (irm a1 6), .ref 13], M)) (by decide +kernel) rfl ⟨(by decide), trivial⟩ ?_
        refine WP.call (.invokevirtual 70, 3, (50, 2), .retAddr 1) (by decide +kernel) rfl (sp_Bike_hasCog (d := d + 0) (by decide) h (fun r4 h => ?_))
        show WP (Ct (d + 2)) 48 Post (23, [some (.ref 13), some (.int a1)], [.int r4], M)
        refine WP.br (.ifCond .eq 7, 3, (30, 0), .null) (by decide +kernel) rfl (fun c5 => ?_) (fun c5 => ?_)
        · replace h := h.1 c5
          refine WP.blk [(.iconst 0, 1, (0, 0), .int 0)] (G := True) (c' := (31, [some (.ref 13), some (.int a1)], [.int 0], M)) (by decide +kernel) rfl trivial ?_
          exact WP.ret (.ireturn, 1, (0, 0), .null) (rk := 2) (by decide +kernel) (by decide +kernel) rfl (by decide) (hΦ _ h)
        · replace h := h.2 c5
          refine WP.blk [(.iconst 1, 1, (0, 0), .int 1), (.goto 4, 3, (31, 0), .null)] (G := True) (c' := (31, [some (.ref 13), some (.int a1)], [.int 1], M)) (by decide +kernel) rfl trivial ?_
          exact WP.ret (.ireturn, 1, (0, 0), .null) (rk := 2) (by decide +kernel) (by decide +kernel) rfl (by decide) (hΦ _ h)
/-- GearRoad$Bike.loadBy(IIII)I -/
def D_Bike_loadBy_28 (M : Mm) (Φ : Int32 → Prop) : Int32 → Prop
  | x1 => Φ (x1 - (x1 / 10))
def S_Bike_loadBy (M : Mm) (a1 : Int32) (a2 : Int32) (a3 : Int32) (a4 : Int32) (Φ : Int32 → Prop) : Prop := ((0 < a2 → ¬ a2 = 0 ∧ ((a3 = 4 → D_Bike_loadBy_28 M Φ ((((a4 + 1) * a1) * 10) / a2)) ∧ (¬ (a3 = 4) → ((a3 = 5 → D_Bike_loadBy_28 M Φ ((((a4 + 1) * a1) * 10) / a2)) ∧ (¬ (a3 = 5) → Φ ((((a4 + 1) * a1) * 10) / a2)))))) ∧ (¬ (0 < a2) → Φ 0))
set_option maxRecDepth 100000 in
set_option maxHeartbeats 4000000 in
theorem L_Bike_loadBy_28 {d : Nat} {Post : Option Value → Mm → Prop} {M : Mm} {Φ : Int32 → Prop} (hΦ : ∀ r, Φ r → Post (some (.int r)) M) : ∀ (x1 : Int32), D_Bike_loadBy_28 M Φ x1 → WP (Ct (d + 0)) 52 Post (28, [none, none, none, none, some (.int x1)], [], M) := by
  intro x1 h
  replace h : Φ (x1 - (x1 / 10)) := h
  refine WP.blk [(.iload 4, 2, (0, 0), .null), (.iload 4, 2, (0, 0), .null), (.bipush 10, 2, (0, 0), .int 10), (.idiv, 1, (0, 0), .null), (.isub, 1, (0, 0), .null), (.goto 5, 3, (41, 0), .null)] (G := ¬ (10 : Int32) = 0 ∧ True) (c' := (41, [none, none, none, none, some (.int x1)], [.int (x1 - (x1 / 10))], M)) (by decide +kernel) rfl ⟨(by decide), trivial⟩ ?_
  exact WP.ret (.ireturn, 1, (0, 0), .null) (rk := 1) (by decide +kernel) (by decide +kernel) rfl trivial (hΦ _ h)
set_option maxRecDepth 100000 in
set_option maxHeartbeats 4000000 in
theorem sp_Bike_loadBy {d : Nat} {Post : Option Value → Mm → Prop} {M : Mm} {a1 : Int32} {a2 : Int32} {a3 : Int32} {a4 : Int32} {Φ : Int32 → Prop} (h : S_Bike_loadBy M a1 a2 a3 a4 Φ) (hΦ : ∀ r, Φ r → Post (some (.int r)) M) : Ct (d + 1) 52 [.int a1, .int a2, .int a3, .int a4] M Post := by
  refine Ct.go (n := 5) (E := [some (.int a1), some (.int a2), some (.int a3), some (.int a4), none]) (by decide +kernel) (by simp [Value.category]) rfl ?_
  refine WP.blk [(.iload_n 1, 1, (0, 0), .null)] (G := True) (c' := (1, [some (.int a1), some (.int a2), some (.int a3), some (.int a4), none], [.int a2], M)) (by decide +kernel) rfl trivial ?_
  refine WP.br (.ifCond .gt 5, 3, (6, 0), .null) (by decide +kernel) rfl (fun c1 => ?_) (fun c1 => ?_)
  · replace h := h.1 c1
    refine WP.blk [(.iload_n 3, 1, (0, 0), .null), (.iconst 1, 1, (0, 0), .int 1), (.iadd, 1, (0, 0), .null), (.iload_n 0, 1, (0, 0), .null), (.imul, 1, (0, 0), .null), (.bipush 10, 2, (0, 0), .int 10), (.imul, 1, (0, 0), .null), (.iload_n 1, 1, (0, 0), .null), (.idiv, 1, (0, 0), .null), (.istore 4, 2, (0, 0), .null), (.iload_n 2, 1, (0, 0), .null), (.iconst 4, 1, (0, 0), .int 4)] (G := ¬ a2 = 0 ∧ True) (c' := (20, [some (.int a1), some (.int a2), some (.int a3), some (.int a4), some (.int ((((a4 + 1) * a1) * 10) / a2))], [.int 4, .int a3], M)) (by decide +kernel) rfl ⟨h.1, trivial⟩ ?_
    replace h := h.2
    refine WP.br (.if_icmp .eq 8, 3, (28, 0), .null) (by decide +kernel) rfl (fun c2 => ?_) (fun c2 => ?_)
    · replace h := h.1 c2
      refine WP.fgt [none, none, none, none, some (.int ((((a4 + 1) * a1) * 10) / a2))] (by simp [fgt]) ?_
      exact L_Bike_loadBy_28 hΦ _ h
    · replace h := h.2 c2
      refine WP.blk [(.iload_n 2, 1, (0, 0), .null), (.iconst 5, 1, (0, 0), .int 5)] (G := True) (c' := (25, [some (.int a1), some (.int a2), some (.int a3), some (.int a4), some (.int ((((a4 + 1) * a1) * 10) / a2))], [.int 5, .int a3], M)) (by decide +kernel) rfl trivial ?_
      refine WP.br (.if_icmp .ne 14, 3, (39, 0), .null) (by decide +kernel) rfl (fun c3 => ?_) (fun c3 => ?_)
      · replace h := h.2 c3
        refine WP.blk [(.iload 4, 2, (0, 0), .null)] (G := True) (c' := (41, [some (.int a1), some (.int a2), some (.int a3), some (.int a4), some (.int ((((a4 + 1) * a1) * 10) / a2))], [.int ((((a4 + 1) * a1) * 10) / a2)], M)) (by decide +kernel) rfl trivial ?_
        exact WP.ret (.ireturn, 1, (0, 0), .null) (rk := 1) (by decide +kernel) (by decide +kernel) rfl trivial (hΦ _ h)
      · replace h := h.1 (Classical.not_not.mp c3)
        refine WP.fgt [none, none, none, none, some (.int ((((a4 + 1) * a1) * 10) / a2))] (by simp [fgt]) ?_
        exact L_Bike_loadBy_28 hΦ _ h
  · replace h := h.2 c1
    refine WP.blk [(.iconst 0, 1, (0, 0), .int 0)] (G := True) (c' := (5, [some (.int a1), some (.int a2), some (.int a3), some (.int a4), none], [.int 0], M)) (by decide +kernel) rfl trivial ?_
    exact WP.ret (.ireturn, 1, (0, 0), .null) (rk := 1) (by decide +kernel) (by decide +kernel) rfl trivial (hΦ _ h)
/-- GearRoad$Bike.loadOf(II)I -/
def S_Bike_loadOf (k : Nat) (M : Mm) (a1 : Int32) (a2 : Int32) (Φ : Int32 → Prop) : Prop := S_Bike_hasGear k M a1 (fun r1 => ((r1 = 0 → Φ 0) ∧ (¬ (r1 = 0) → vp_in (a1 / 6) 3 ∧ vp_in (irm a1 6) 6 ∧ vp_in (irm a1 6) 6 ∧ S_Bike_loadBy M (M (k + 1) (Int32.toNatClampNeg (a1 / 6))) (M (k + 3) (Int32.toNatClampNeg (irm a1 6))) (M (k + 2) (Int32.toNatClampNeg (irm a1 6))) a2 (fun r3 => Φ r3))))
set_option maxRecDepth 100000 in
set_option maxHeartbeats 4000000 in
theorem sp_Bike_loadOf {d : Nat} {Post : Option Value → Mm → Prop} {k : Nat} {M : Mm} {a1 : Int32} {a2 : Int32} {Φ : Int32 → Prop} (hk : k = 7 ∨ k = 13) (h : S_Bike_loadOf k M a1 a2 Φ) (hΦ : ∀ r, Φ r → Post (some (.int r)) M) : Ct (d + 4) 51 [.ref k, .int a1, .int a2] M Post := by
  rcases hk with rfl | rfl
  · refine Ct.go (n := 3) (E := [some (.ref 7), some (.int a1), some (.int a2)]) (by decide +kernel) (by simp [Value.category]) rfl ?_
    refine WP.blk [(.aload_n 0, 1, (0, 0), .null), (.iload_n 1, 1, (0, 0), .null)] (G := True) (c' := (2, [some (.ref 7), some (.int a1), some (.int a2)], [.int a1, .ref 7], M)) (by decide +kernel) rfl trivial ?_
    refine WP.call (.invokevirtual 73, 3, (48, 2), .retAddr 1) (by decide +kernel) rfl (sp_Bike_hasGear (d := d + 0) (by decide) h (fun r1 h => ?_))
    show WP (Ct (d + 3)) 51 Post (5, [some (.ref 7), some (.int a1), some (.int a2)], [.int r1], M)
    refine WP.br (.ifCond .ne 5, 3, (10, 0), .null) (by decide +kernel) rfl (fun c2 => ?_) (fun c2 => ?_)
    · replace h := h.2 c2
      refine WP.blk [(.aload_n 0, 1, (0, 0), .null), (.getfield 40, 3, (1, 9), .null), (.iload_n 1, 1, (0, 0), .null), (.bipush 6, 2, (0, 0), .int 6), (.idiv, 1, (0, 0), .null), (.iaload, 1, (0, 0), .null), (.aload_n 0, 1, (0, 0), .null), (.getfield 47, 3, (1, 11), .null), (.iload_n 1, 1, (0, 0), .null), (.bipush 6, 2, (0, 0), .int 6), (.irem, 1, (0, 0), .null), (.iaload, 1, (0, 0), .null), (.aload_n 0, 1, (0, 0), .null), (.getfield 44, 3, (1, 10), .null), (.iload_n 1, 1, (0, 0), .null), (.bipush 6, 2, (0, 0), .int 6), (.irem, 1, (0, 0), .null), (.iaload, 1, (0, 0), .null), (.iload_n 2, 1, (0, 0), .null)] (G := ¬ (6 : Int32) = 0 ∧ vp_in (a1 / 6) 3 ∧ ¬ (6 : Int32) = 0 ∧ vp_in (irm a1 6) 6 ∧ ¬ (6 : Int32) = 0 ∧ vp_in (irm a1 6) 6 ∧ True) (c' := (38, [some (.ref 7), some (.int a1), some (.int a2)], [.int a2, .int (M 9 (Int32.toNatClampNeg (irm a1 6))), .int (M 10 (Int32.toNatClampNeg (irm a1 6))), .int (M 8 (Int32.toNatClampNeg (a1 / 6)))], M)) (by decide +kernel) rfl ⟨(by decide), h.1, (by decide), h.2.1, (by decide), h.2.2.1, trivial⟩ ?_
      replace h := h.2.2.2
      refine WP.call (.invokestatic 76, 3, (52, 4), .null) (by decide +kernel) rfl (sp_Bike_loadBy (d := d + 2) h (fun r3 h => ?_))
      show WP (Ct (d + 3)) 51 Post (41, [some (.ref 7), some (.int a1), some (.int a2)], [.int r3], M)
      exact WP.ret (.ireturn, 1, (0, 0), .null) (rk := 1) (by decide +kernel) (by decide +kernel) rfl trivial (hΦ _ h)
    · replace h := h.1 (Classical.not_not.mp c2)
      refine WP.blk [(.iconst 0, 1, (0, 0), .int 0)] (G := True) (c' := (9, [some (.ref 7), some (.int a1), some (.int a2)], [.int 0], M)) (by decide +kernel) rfl trivial ?_
      exact WP.ret (.ireturn, 1, (0, 0), .null) (rk := 1) (by decide +kernel) (by decide +kernel) rfl trivial (hΦ _ h)
  · refine Ct.go (n := 3) (E := [some (.ref 13), some (.int a1), some (.int a2)]) (by decide +kernel) (by simp [Value.category]) rfl ?_
    refine WP.blk [(.aload_n 0, 1, (0, 0), .null), (.iload_n 1, 1, (0, 0), .null)] (G := True) (c' := (2, [some (.ref 13), some (.int a1), some (.int a2)], [.int a1, .ref 13], M)) (by decide +kernel) rfl trivial ?_
    refine WP.call (.invokevirtual 73, 3, (48, 2), .retAddr 1) (by decide +kernel) rfl (sp_Bike_hasGear (d := d + 0) (by decide) h (fun r1 h => ?_))
    show WP (Ct (d + 3)) 51 Post (5, [some (.ref 13), some (.int a1), some (.int a2)], [.int r1], M)
    refine WP.br (.ifCond .ne 5, 3, (10, 0), .null) (by decide +kernel) rfl (fun c2 => ?_) (fun c2 => ?_)
    · replace h := h.2 c2
      refine WP.blk [(.aload_n 0, 1, (0, 0), .null), (.getfield 40, 3, (1, 9), .null), (.iload_n 1, 1, (0, 0), .null), (.bipush 6, 2, (0, 0), .int 6), (.idiv, 1, (0, 0), .null), (.iaload, 1, (0, 0), .null), (.aload_n 0, 1, (0, 0), .null), (.getfield 47, 3, (1, 11), .null), (.iload_n 1, 1, (0, 0), .null), (.bipush 6, 2, (0, 0), .int 6), (.irem, 1, (0, 0), .null), (.iaload, 1, (0, 0), .null), (.aload_n 0, 1, (0, 0), .null), (.getfield 44, 3, (1, 10), .null), (.iload_n 1, 1, (0, 0), .null), (.bipush 6, 2, (0, 0), .int 6), (.irem, 1, (0, 0), .null), (.iaload, 1, (0, 0), .null), (.iload_n 2, 1, (0, 0), .null)] (G := ¬ (6 : Int32) = 0 ∧ vp_in (a1 / 6) 3 ∧ ¬ (6 : Int32) = 0 ∧ vp_in (irm a1 6) 6 ∧ ¬ (6 : Int32) = 0 ∧ vp_in (irm a1 6) 6 ∧ True) (c' := (38, [some (.ref 13), some (.int a1), some (.int a2)], [.int a2, .int (M 15 (Int32.toNatClampNeg (irm a1 6))), .int (M 16 (Int32.toNatClampNeg (irm a1 6))), .int (M 14 (Int32.toNatClampNeg (a1 / 6)))], M)) (by decide +kernel) rfl ⟨(by decide), h.1, (by decide), h.2.1, (by decide), h.2.2.1, trivial⟩ ?_
      replace h := h.2.2.2
      refine WP.call (.invokestatic 76, 3, (52, 4), .null) (by decide +kernel) rfl (sp_Bike_loadBy (d := d + 2) h (fun r3 h => ?_))
      show WP (Ct (d + 3)) 51 Post (41, [some (.ref 13), some (.int a1), some (.int a2)], [.int r3], M)
      exact WP.ret (.ireturn, 1, (0, 0), .null) (rk := 1) (by decide +kernel) (by decide +kernel) rfl trivial (hΦ _ h)
    · replace h := h.1 (Classical.not_not.mp c2)
      refine WP.blk [(.iconst 0, 1, (0, 0), .int 0)] (G := True) (c' := (9, [some (.ref 13), some (.int a1), some (.int a2)], [.int 0], M)) (by decide +kernel) rfl trivial ?_
      exact WP.ret (.ireturn, 1, (0, 0), .null) (rk := 1) (by decide +kernel) (by decide +kernel) rfl trivial (hΦ _ h)
/-- GearRoad$Bike.bears(II)Z -/
def S_Bike_bears (k : Nat) (M : Mm) (a1 : Int32) (a2 : Int32) (Φ : Int32 → Prop) : Prop := S_Bike_hasGear k M a1 (fun r1 => ((r1 = 0 → Φ 0) ∧ (¬ (r1 = 0) → S_Bike_loadOf k M a1 a2 (fun r3 => (((M k 4) < r3 → Φ 0) ∧ (¬ ((M k 4) < r3) → Φ 1))))))
set_option maxRecDepth 100000 in
set_option maxHeartbeats 4000000 in
theorem sp_Bike_bears {d : Nat} {Post : Option Value → Mm → Prop} {k : Nat} {M : Mm} {a1 : Int32} {a2 : Int32} {Φ : Int32 → Prop} (hk : k = 7 ∨ k = 13) (h : S_Bike_bears k M a1 a2 Φ) (hΦ : ∀ r, Φ r → Post (some (.int r)) M) : Ct (d + 5) 47 [.ref k, .int a1, .int a2] M Post := by
  rcases hk with rfl | rfl
  · refine Ct.go (n := 3) (E := [some (.ref 7), some (.int a1), some (.int a2)]) (by decide +kernel) (by simp [Value.category]) rfl ?_
    refine WP.blk [(.aload_n 0, 1, (0, 0), .null), (.iload_n 1, 1, (0, 0), .null)] (G := True) (c' := (2, [some (.ref 7), some (.int a1), some (.int a2)], [.int a1, .ref 7], M)) (by decide +kernel) rfl trivial ?_
    refine WP.call (.invokevirtual 73, 3, (48, 2), .retAddr 1) (by decide +kernel) rfl (sp_Bike_hasGear (d := d + 1) (by decide) h (fun r1 h => ?_))
    show WP (Ct (d + 4)) 47 Post (5, [some (.ref 7), some (.int a1), some (.int a2)], [.int r1], M)
    refine WP.br (.ifCond .eq 20, 3, (25, 0), .null) (by decide +kernel) rfl (fun c2 => ?_) (fun c2 => ?_)
    · replace h := h.1 c2
      refine WP.blk [(.iconst 0, 1, (0, 0), .int 0)] (G := True) (c' := (26, [some (.ref 7), some (.int a1), some (.int a2)], [.int 0], M)) (by decide +kernel) rfl trivial ?_
      exact WP.ret (.ireturn, 1, (0, 0), .null) (rk := 2) (by decide +kernel) (by decide +kernel) rfl (by decide) (hΦ _ h)
    · replace h := h.2 c2
      refine WP.blk [(.aload_n 0, 1, (0, 0), .null), (.iload_n 1, 1, (0, 0), .null), (.iload_n 2, 1, (0, 0), .null)] (G := True) (c' := (11, [some (.ref 7), some (.int a1), some (.int a2)], [.int a2, .int a1, .ref 7], M)) (by decide +kernel) rfl trivial ?_
      refine WP.call (.invokevirtual 84, 3, (51, 3), .retAddr 1) (by decide +kernel) rfl (sp_Bike_loadOf (d := d + 0) (by decide) h (fun r3 h => ?_))
      show WP (Ct (d + 4)) 47 Post (14, [some (.ref 7), some (.int a1), some (.int a2)], [.int r3], M)
      refine WP.blk [(.aload_n 0, 1, (0, 0), .null), (.getfield 25, 3, (1, 4), .null)] (G := True) (c' := (18, [some (.ref 7), some (.int a1), some (.int a2)], [.int (M 7 4), .int r3], M)) (by decide +kernel) rfl trivial ?_
      refine WP.br (.if_icmp .gt 7, 3, (25, 0), .null) (by decide +kernel) rfl (fun c4 => ?_) (fun c4 => ?_)
      · replace h := h.1 c4
        refine WP.blk [(.iconst 0, 1, (0, 0), .int 0)] (G := True) (c' := (26, [some (.ref 7), some (.int a1), some (.int a2)], [.int 0], M)) (by decide +kernel) rfl trivial ?_
        exact WP.ret (.ireturn, 1, (0, 0), .null) (rk := 2) (by decide +kernel) (by decide +kernel) rfl (by decide) (hΦ _ h)
      · replace h := h.2 c4
        refine WP.blk [(.iconst 1, 1, (0, 0), .int 1), (.goto 4, 3, (26, 0), .null)] (G := True) (c' := (26, [some (.ref 7), some (.int a1), some (.int a2)], [.int 1], M)) (by decide +kernel) rfl trivial ?_
        exact WP.ret (.ireturn, 1, (0, 0), .null) (rk := 2) (by decide +kernel) (by decide +kernel) rfl (by decide) (hΦ _ h)
  · refine Ct.go (n := 3) (E := [some (.ref 13), some (.int a1), some (.int a2)]) (by decide +kernel) (by simp [Value.category]) rfl ?_
    refine WP.blk [(.aload_n 0, 1, (0, 0), .null), (.iload_n 1, 1, (0, 0), .null)] (G := True) (c' := (2, [some (.ref 13), some (.int a1), some (.int a2)], [.int a1, .ref 13], M)) (by decide +kernel) rfl trivial ?_
    refine WP.call (.invokevirtual 73, 3, (48, 2), .retAddr 1) (by decide +kernel) rfl (sp_Bike_hasGear (d := d + 1) (by decide) h (fun r1 h => ?_))
    show WP (Ct (d + 4)) 47 Post (5, [some (.ref 13), some (.int a1), some (.int a2)], [.int r1], M)
    refine WP.br (.ifCond .eq 20, 3, (25, 0), .null) (by decide +kernel) rfl (fun c2 => ?_) (fun c2 => ?_)
    · replace h := h.1 c2
      refine WP.blk [(.iconst 0, 1, (0, 0), .int 0)] (G := True) (c' := (26, [some (.ref 13), some (.int a1), some (.int a2)], [.int 0], M)) (by decide +kernel) rfl trivial ?_
      exact WP.ret (.ireturn, 1, (0, 0), .null) (rk := 2) (by decide +kernel) (by decide +kernel) rfl (by decide) (hΦ _ h)
    · replace h := h.2 c2
      refine WP.blk [(.aload_n 0, 1, (0, 0), .null), (.iload_n 1, 1, (0, 0), .null), (.iload_n 2, 1, (0, 0), .null)] (G := True) (c' := (11, [some (.ref 13), some (.int a1), some (.int a2)], [.int a2, .int a1, .ref 13], M)) (by decide +kernel) rfl trivial ?_
      refine WP.call (.invokevirtual 84, 3, (51, 3), .retAddr 1) (by decide +kernel) rfl (sp_Bike_loadOf (d := d + 0) (by decide) h (fun r3 h => ?_))
      show WP (Ct (d + 4)) 47 Post (14, [some (.ref 13), some (.int a1), some (.int a2)], [.int r3], M)
      refine WP.blk [(.aload_n 0, 1, (0, 0), .null), (.getfield 25, 3, (1, 4), .null)] (G := True) (c' := (18, [some (.ref 13), some (.int a1), some (.int a2)], [.int (M 13 4), .int r3], M)) (by decide +kernel) rfl trivial ?_
      refine WP.br (.if_icmp .gt 7, 3, (25, 0), .null) (by decide +kernel) rfl (fun c4 => ?_) (fun c4 => ?_)
      · replace h := h.1 c4
        refine WP.blk [(.iconst 0, 1, (0, 0), .int 0)] (G := True) (c' := (26, [some (.ref 13), some (.int a1), some (.int a2)], [.int 0], M)) (by decide +kernel) rfl trivial ?_
        exact WP.ret (.ireturn, 1, (0, 0), .null) (rk := 2) (by decide +kernel) (by decide +kernel) rfl (by decide) (hΦ _ h)
      · replace h := h.2 c4
        refine WP.blk [(.iconst 1, 1, (0, 0), .int 1), (.goto 4, 3, (26, 0), .null)] (G := True) (c' := (26, [some (.ref 13), some (.int a1), some (.int a2)], [.int 1], M)) (by decide +kernel) rfl trivial ?_
        exact WP.ret (.ireturn, 1, (0, 0), .null) (rk := 2) (by decide +kernel) (by decide +kernel) rfl (by decide) (hΦ _ h)
/-- GearRoad$Bike.gearsBorne(I)I -/
def D_Bike_gearsBorne_30 (k : Nat) (M : Mm) (Φ : Int32 → Prop) (rec_4 : Int32 × Int32 × Int32 → Prop) : Int32 × Int32 × Int32 → Prop
  | (x1, x2, x3) => rec_4 (x1, x2, (x3 + 1))
def D_Bike_gearsBorne_4 (k : Nat) (M : Mm) (Φ : Int32 → Prop) (rec_4 : Int32 × Int32 × Int32 → Prop) : Int32 × Int32 × Int32 → Prop
  | (x1, x2, x3) => ((18 ≤ x3 → Φ x2) ∧ (¬ (18 ≤ x3) → vp_in x1 6 ∧ S_Bike_bears k M x3 (M (k + 5) (Int32.toNatClampNeg x1)) (fun r5 => ((r5 = 0 → D_Bike_gearsBorne_30 k M Φ rec_4 (x1, x2, x3)) ∧ (¬ (r5 = 0) → D_Bike_gearsBorne_30 k M Φ rec_4 (x1, (x2 ||| (1 <<< (x3 &&& 31))), x3))))))
def S_Bike_gearsBorne (k : Nat) (M : Mm) (a1 : Int32) (Φ : Int32 → Prop) : Prop := ∃ n, lp (D_Bike_gearsBorne_4 k M Φ) n (a1, 0, 0)
set_option maxRecDepth 100000 in
set_option maxHeartbeats 4000000 in
theorem L_Bike_gearsBorne_30 {d : Nat} {Post : Option Value → Mm → Prop} {k : Nat} {M : Mm} {rec_4 : Int32 × Int32 × Int32 → Prop} {Φ : Int32 → Prop} (hk : k = 7 ∨ k = 13) (hΦ : ∀ r, Φ r → Post (some (.int r)) M) (hrec_4 : ∀ (x1 : Int32) (x2 : Int32) (x3 : Int32), rec_4 (x1, x2, x3) → WP (Ct (d + 5)) 76 Post (4, [some (.ref k), some (.int x1), some (.int x2), some (.int x3)], [], M)) : ∀ (x1 : Int32) (x2 : Int32) (x3 : Int32), D_Bike_gearsBorne_30 k M Φ rec_4 (x1, x2, x3) → WP (Ct (d + 5)) 76 Post (30, [some (.ref k), some (.int x1), some (.int x2), some (.int x3)], [], M) := by
  rcases hk with rfl | rfl
  · intro x1 x2 x3 h
    replace h : rec_4 (x1, x2, (x3 + 1)) := h
    refine WP.blk [(.iinc 3 1, 3, (0, 0), .int 1), (.goto (-29), 3, (4, 0), .null)] (G := True) (c' := (4, [some (.ref 7), some (.int x1), some (.int x2), some (.int (x3 + 1))], [], M)) (by decide +kernel) rfl trivial ?_
    exact hrec_4 _ _ _ h
  · intro x1 x2 x3 h
    replace h : rec_4 (x1, x2, (x3 + 1)) := h
    refine WP.blk [(.iinc 3 1, 3, (0, 0), .int 1), (.goto (-29), 3, (4, 0), .null)] (G := True) (c' := (4, [some (.ref 13), some (.int x1), some (.int x2), some (.int (x3 + 1))], [], M)) (by decide +kernel) rfl trivial ?_
    exact hrec_4 _ _ _ h
set_option maxRecDepth 100000 in
set_option maxHeartbeats 4000000 in
theorem L_Bike_gearsBorne_4 {d : Nat} {Post : Option Value → Mm → Prop} {k : Nat} {M : Mm} {rec_4 : Int32 × Int32 × Int32 → Prop} {Φ : Int32 → Prop} (hk : k = 7 ∨ k = 13) (hΦ : ∀ r, Φ r → Post (some (.int r)) M) (hrec_4 : ∀ (x1 : Int32) (x2 : Int32) (x3 : Int32), rec_4 (x1, x2, x3) → WP (Ct (d + 5)) 76 Post (4, [some (.ref k), some (.int x1), some (.int x2), some (.int x3)], [], M)) : ∀ (x1 : Int32) (x2 : Int32) (x3 : Int32), D_Bike_gearsBorne_4 k M Φ rec_4 (x1, x2, x3) → WP (Ct (d + 5)) 76 Post (4, [some (.ref k), some (.int x1), some (.int x2), some (.int x3)], [], M) := by
  rcases hk with rfl | rfl
  · intro x1 x2 x3 h
    replace h : ((18 ≤ x3 → Φ x2) ∧ (¬ (18 ≤ x3) → vp_in x1 6 ∧ S_Bike_bears 7 M x3 (M 12 (Int32.toNatClampNeg x1)) (fun r5 => ((r5 = 0 → D_Bike_gearsBorne_30 7 M Φ rec_4 (x1, x2, x3)) ∧ (¬ (r5 = 0) → D_Bike_gearsBorne_30 7 M Φ rec_4 (x1, (x2 ||| (1 <<< (x3 &&& 31))), x3)))))) := h
    refine WP.blk [(.iload_n 3, 1, (0, 0), .null), (.bipush 18, 2, (0, 0), .int 18)] (G := True) (c' := (7, [some (.ref 7), some (.int x1), some (.int x2), some (.int x3)], [.int 18, .int x3], M)) (by decide +kernel) rfl trivial ?_
    refine WP.br (.if_icmp .ge 29, 3, (36, 0), .null) (by decide +kernel) rfl (fun c4 => ?_) (fun c4 => ?_)
    · replace h := h.1 c4
      refine WP.blk [(.iload_n 2, 1, (0, 0), .null)] (G := True) (c' := (37, [some (.ref 7), some (.int x1), some (.int x2), some (.int x3)], [.int x2], M)) (by decide +kernel) rfl trivial ?_
      exact WP.ret (.ireturn, 1, (0, 0), .null) (rk := 1) (by decide +kernel) (by decide +kernel) rfl trivial (hΦ _ h)
    · replace h := h.2 c4
      refine WP.blk [(.aload_n 0, 1, (0, 0), .null), (.iload_n 3, 1, (0, 0), .null), (.aload_n 0, 1, (0, 0), .null), (.getfield 53, 3, (1, 13), .null), (.iload_n 1, 1, (0, 0), .null), (.iaload, 1, (0, 0), .null)] (G := vp_in x1 6 ∧ True) (c' := (18, [some (.ref 7), some (.int x1), some (.int x2), some (.int x3)], [.int (M 12 (Int32.toNatClampNeg x1)), .int x3, .ref 7], M)) (by decide +kernel) rfl ⟨h.1, trivial⟩ ?_
      replace h := h.2
      refine WP.call (.invokevirtual 88, 3, (47, 3), .retAddr 1) (by decide +kernel) rfl (sp_Bike_bears (d := d + 0) (by decide) h (fun r5 h => ?_))
      show WP (Ct (d + 5)) 76 Post (21, [some (.ref 7), some (.int x1), some (.int x2), some (.int x3)], [.int r5], M)
      refine WP.br (.ifCond .eq 9, 3, (30, 0), .null) (by decide +kernel) rfl (fun c6 => ?_) (fun c6 => ?_)
      · replace h := h.1 c6
        exact L_Bike_gearsBorne_30 (by decide) hΦ hrec_4 _ _ _ h
      · replace h := h.2 c6
        refine WP.blk [(.iload_n 2, 1, (0, 0), .null), (.iconst 1, 1, (0, 0), .int 1), (.iload_n 3, 1, (0, 0), .null), (.ishl, 1, (0, 0), .null), (.ior, 1, (0, 0), .null), (.istore_n 2, 1, (0, 0), .null)] (G := True) (c' := (30, [some (.ref 7), some (.int x1), some (.int (x2 ||| (1 <<< (x3 &&& 31)))), some (.int x3)], [], M)) (by decide +kernel) rfl trivial ?_
        exact L_Bike_gearsBorne_30 (by decide) hΦ hrec_4 _ _ _ h
  · intro x1 x2 x3 h
    replace h : ((18 ≤ x3 → Φ x2) ∧ (¬ (18 ≤ x3) → vp_in x1 6 ∧ S_Bike_bears 13 M x3 (M 18 (Int32.toNatClampNeg x1)) (fun r5 => ((r5 = 0 → D_Bike_gearsBorne_30 13 M Φ rec_4 (x1, x2, x3)) ∧ (¬ (r5 = 0) → D_Bike_gearsBorne_30 13 M Φ rec_4 (x1, (x2 ||| (1 <<< (x3 &&& 31))), x3)))))) := h
    refine WP.blk [(.iload_n 3, 1, (0, 0), .null), (.bipush 18, 2, (0, 0), .int 18)] (G := True) (c' := (7, [some (.ref 13), some (.int x1), some (.int x2), some (.int x3)], [.int 18, .int x3], M)) (by decide +kernel) rfl trivial ?_
    refine WP.br (.if_icmp .ge 29, 3, (36, 0), .null) (by decide +kernel) rfl (fun c4 => ?_) (fun c4 => ?_)
    · replace h := h.1 c4
      refine WP.blk [(.iload_n 2, 1, (0, 0), .null)] (G := True) (c' := (37, [some (.ref 13), some (.int x1), some (.int x2), some (.int x3)], [.int x2], M)) (by decide +kernel) rfl trivial ?_
      exact WP.ret (.ireturn, 1, (0, 0), .null) (rk := 1) (by decide +kernel) (by decide +kernel) rfl trivial (hΦ _ h)
    · replace h := h.2 c4
      refine WP.blk [(.aload_n 0, 1, (0, 0), .null), (.iload_n 3, 1, (0, 0), .null), (.aload_n 0, 1, (0, 0), .null), (.getfield 53, 3, (1, 13), .null), (.iload_n 1, 1, (0, 0), .null), (.iaload, 1, (0, 0), .null)] (G := vp_in x1 6 ∧ True) (c' := (18, [some (.ref 13), some (.int x1), some (.int x2), some (.int x3)], [.int (M 18 (Int32.toNatClampNeg x1)), .int x3, .ref 13], M)) (by decide +kernel) rfl ⟨h.1, trivial⟩ ?_
      replace h := h.2
      refine WP.call (.invokevirtual 88, 3, (47, 3), .retAddr 1) (by decide +kernel) rfl (sp_Bike_bears (d := d + 0) (by decide) h (fun r5 h => ?_))
      show WP (Ct (d + 5)) 76 Post (21, [some (.ref 13), some (.int x1), some (.int x2), some (.int x3)], [.int r5], M)
      refine WP.br (.ifCond .eq 9, 3, (30, 0), .null) (by decide +kernel) rfl (fun c6 => ?_) (fun c6 => ?_)
      · replace h := h.1 c6
        exact L_Bike_gearsBorne_30 (by decide) hΦ hrec_4 _ _ _ h
      · replace h := h.2 c6
        refine WP.blk [(.iload_n 2, 1, (0, 0), .null), (.iconst 1, 1, (0, 0), .int 1), (.iload_n 3, 1, (0, 0), .null), (.ishl, 1, (0, 0), .null), (.ior, 1, (0, 0), .null), (.istore_n 2, 1, (0, 0), .null)] (G := True) (c' := (30, [some (.ref 13), some (.int x1), some (.int (x2 ||| (1 <<< (x3 &&& 31)))), some (.int x3)], [], M)) (by decide +kernel) rfl trivial ?_
        exact L_Bike_gearsBorne_30 (by decide) hΦ hrec_4 _ _ _ h
theorem P_Bike_gearsBorne_4 {d : Nat} {Post : Option Value → Mm → Prop} {k : Nat} {M : Mm} {Φ : Int32 → Prop} (hk : k = 7 ∨ k = 13) (hΦ : ∀ r, Φ r → Post (some (.int r)) M) : ∀ (n : Nat) (x1 : Int32) (x2 : Int32) (x3 : Int32), lp (D_Bike_gearsBorne_4 k M Φ) n (x1, x2, x3) → WP (Ct (d + 5)) 76 Post (4, [some (.ref k), some (.int x1), some (.int x2), some (.int x3)], [], M)
  | 0, x1, x2, x3, h => absurd h (by simp [lp])
  | n + 1, x1, x2, x3, h => L_Bike_gearsBorne_4 hk hΦ (P_Bike_gearsBorne_4 hk hΦ n) x1 x2 x3 h
set_option maxRecDepth 100000 in
set_option maxHeartbeats 4000000 in
theorem sp_Bike_gearsBorne {d : Nat} {Post : Option Value → Mm → Prop} {k : Nat} {M : Mm} {a1 : Int32} {Φ : Int32 → Prop} (hk : k = 7 ∨ k = 13) (h : S_Bike_gearsBorne k M a1 Φ) (hΦ : ∀ r, Φ r → Post (some (.int r)) M) : Ct (d + 6) 76 [.ref k, .int a1] M Post := by
  rcases hk with rfl | rfl
  · refine Ct.go (n := 4) (E := [some (.ref 7), some (.int a1), none, none]) (by decide +kernel) (by simp [Value.category]) rfl ?_
    refine WP.blk [(.iconst 0, 1, (0, 0), .int 0), (.istore_n 2, 1, (0, 0), .null), (.iconst 0, 1, (0, 0), .int 0), (.istore_n 3, 1, (0, 0), .null)] (G := True) (c' := (4, [some (.ref 7), some (.int a1), some (.int 0), some (.int 0)], [], M)) (by decide +kernel) rfl trivial ?_
    obtain ⟨n, h⟩ := h
    exact P_Bike_gearsBorne_4 (by decide) hΦ n _ _ _ h
  · refine Ct.go (n := 4) (E := [some (.ref 13), some (.int a1), none, none]) (by decide +kernel) (by simp [Value.category]) rfl ?_
    refine WP.blk [(.iconst 0, 1, (0, 0), .int 0), (.istore_n 2, 1, (0, 0), .null), (.iconst 0, 1, (0, 0), .int 0), (.istore_n 3, 1, (0, 0), .null)] (G := True) (c' := (4, [some (.ref 13), some (.int a1), some (.int 0), some (.int 0)], [], M)) (by decide +kernel) rfl trivial ?_
    obtain ⟨n, h⟩ := h
    exact P_Bike_gearsBorne_4 (by decide) hΦ n _ _ _ h
/-- GearRoad$Bike.hasPiece(I)Z -/
def S_Bike_hasPiece (k : Nat) (M : Mm) (a1 : Int32) (Φ : Int32 → Prop) : Prop := S_within M a1 0 ((M k 3) - 1) (fun r1 => ((r1 = 0 ∨ r1 = 1) ∧ Φ r1))
set_option maxRecDepth 100000 in
set_option maxHeartbeats 4000000 in
theorem sp_Bike_hasPiece {d : Nat} {Post : Option Value → Mm → Prop} {k : Nat} {M : Mm} {a1 : Int32} {Φ : Int32 → Prop} (hk : k = 7 ∨ k = 13) (h : S_Bike_hasPiece k M a1 Φ) (hΦ : ∀ r, Φ r → Post (some (.int r)) M) : Ct (d + 2) 45 [.ref k, .int a1] M Post := by
  rcases hk with rfl | rfl
  · refine Ct.go (n := 2) (E := [some (.ref 7), some (.int a1)]) (by decide +kernel) (by simp [Value.category]) rfl ?_
    refine WP.blk [(.iload_n 1, 1, (0, 0), .null), (.iconst 0, 1, (0, 0), .int 0), (.aload_n 0, 1, (0, 0), .null), (.getfield 22, 3, (1, 3), .null), (.iconst 1, 1, (0, 0), .int 1), (.isub, 1, (0, 0), .null)] (G := True) (c' := (8, [some (.ref 7), some (.int a1)], [.int ((M 7 3) - 1), .int 0, .int a1], M)) (by decide +kernel) rfl trivial ?_
    refine WP.call (.invokestatic 62, 3, (10, 3), .null) (by decide +kernel) rfl (sp_within (d := d + 0) h (fun r1 h => ?_))
    show WP (Ct (d + 1)) 45 Post (11, [some (.ref 7), some (.int a1)], [.int r1], M)
    exact WP.ret (.ireturn, 1, (0, 0), .null) (rk := 2) (by decide +kernel) (by decide +kernel) rfl h.1 (hΦ _ h.2)
  · refine Ct.go (n := 2) (E := [some (.ref 13), some (.int a1)]) (by decide +kernel) (by simp [Value.category]) rfl ?_
    refine WP.blk [(.iload_n 1, 1, (0, 0), .null), (.iconst 0, 1, (0, 0), .int 0), (.aload_n 0, 1, (0, 0), .null), (.getfield 22, 3, (1, 3), .null), (.iconst 1, 1, (0, 0), .int 1), (.isub, 1, (0, 0), .null)] (G := True) (c' := (8, [some (.ref 13), some (.int a1)], [.int ((M 13 3) - 1), .int 0, .int a1], M)) (by decide +kernel) rfl trivial ?_
    refine WP.call (.invokestatic 62, 3, (10, 3), .null) (by decide +kernel) rfl (sp_within (d := d + 0) h (fun r1 h => ?_))
    show WP (Ct (d + 1)) 45 Post (11, [some (.ref 13), some (.int a1)], [.int r1], M)
    exact WP.ret (.ireturn, 1, (0, 0), .null) (rk := 2) (by decide +kernel) (by decide +kernel) rfl h.1 (hΦ _ h.2)
/-- GearRoad$Bike.turnsBy(III)I -/
def S_Bike_turnsBy (M : Mm) (a1 : Int32) (a2 : Int32) (a3 : Int32) (Φ : Int32 → Prop) : Prop := ((0 < a1 → ¬ a1 = 0 ∧ ((a3 = 2 → Φ ((((100 * a2) / a1) + 1) + ((((100 * a2) / a1) + 1) / 4))) ∧ (¬ (a3 = 2) → Φ (((100 * a2) / a1) + 1)))) ∧ (¬ (0 < a1) → Φ 0))
set_option maxRecDepth 100000 in
set_option maxHeartbeats 4000000 in
theorem sp_Bike_turnsBy {d : Nat} {Post : Option Value → Mm → Prop} {M : Mm} {a1 : Int32} {a2 : Int32} {a3 : Int32} {Φ : Int32 → Prop} (h : S_Bike_turnsBy M a1 a2 a3 Φ) (hΦ : ∀ r, Φ r → Post (some (.int r)) M) : Ct (d + 1) 57 [.int a1, .int a2, .int a3] M Post := by
  refine Ct.go (n := 4) (E := [some (.int a1), some (.int a2), some (.int a3), none]) (by decide +kernel) (by simp [Value.category]) rfl ?_
  refine WP.blk [(.iload_n 0, 1, (0, 0), .null)] (G := True) (c' := (1, [some (.int a1), some (.int a2), some (.int a3), none], [.int a1], M)) (by decide +kernel) rfl trivial ?_
  refine WP.br (.ifCond .gt 5, 3, (6, 0), .null) (by decide +kernel) rfl (fun c1 => ?_) (fun c1 => ?_)
  · replace h := h.1 c1
    refine WP.blk [(.bipush 100, 2, (0, 0), .int 100), (.iload_n 1, 1, (0, 0), .null), (.imul, 1, (0, 0), .null), (.iload_n 0, 1, (0, 0), .null), (.idiv, 1, (0, 0), .null), (.iconst 1, 1, (0, 0), .int 1), (.iadd, 1, (0, 0), .null), (.istore_n 3, 1, (0, 0), .null), (.iload_n 2, 1, (0, 0), .null), (.iconst 2, 1, (0, 0), .int 2)] (G := ¬ a1 = 0 ∧ True) (c' := (17, [some (.int a1), some (.int a2), some (.int a3), some (.int (((100 * a2) / a1) + 1))], [.int 2, .int a3], M)) (by decide +kernel) rfl ⟨h.1, trivial⟩ ?_
    replace h := h.2
    refine WP.br (.if_icmp .ne 11, 3, (28, 0), .null) (by decide +kernel) rfl (fun c2 => ?_) (fun c2 => ?_)
    · replace h := h.2 c2
      refine WP.blk [(.iload_n 3, 1, (0, 0), .null)] (G := True) (c' := (29, [some (.int a1), some (.int a2), some (.int a3), some (.int (((100 * a2) / a1) + 1))], [.int (((100 * a2) / a1) + 1)], M)) (by decide +kernel) rfl trivial ?_
      exact WP.ret (.ireturn, 1, (0, 0), .null) (rk := 1) (by decide +kernel) (by decide +kernel) rfl trivial (hΦ _ h)
    · replace h := h.1 (Classical.not_not.mp c2)
      refine WP.blk [(.iload_n 3, 1, (0, 0), .null), (.iload_n 3, 1, (0, 0), .null), (.iconst 4, 1, (0, 0), .int 4), (.idiv, 1, (0, 0), .null), (.iadd, 1, (0, 0), .null), (.goto 4, 3, (29, 0), .null)] (G := ¬ (4 : Int32) = 0 ∧ True) (c' := (29, [some (.int a1), some (.int a2), some (.int a3), some (.int (((100 * a2) / a1) + 1))], [.int ((((100 * a2) / a1) + 1) + ((((100 * a2) / a1) + 1) / 4))], M)) (by decide +kernel) rfl ⟨(by decide), trivial⟩ ?_
      exact WP.ret (.ireturn, 1, (0, 0), .null) (rk := 1) (by decide +kernel) (by decide +kernel) rfl trivial (hΦ _ h)
  · replace h := h.2 c1
    refine WP.blk [(.iconst 0, 1, (0, 0), .int 0)] (G := True) (c' := (5, [some (.int a1), some (.int a2), some (.int a3), none], [.int 0], M)) (by decide +kernel) rfl trivial ?_
    exact WP.ret (.ireturn, 1, (0, 0), .null) (rk := 1) (by decide +kernel) (by decide +kernel) rfl trivial (hΦ _ h)
/-- GearRoad$Bike.turnsAhead(IIII)I -/
def S_Bike_turnsAhead (k : Nat) (M : Mm) (a1 : Int32) (a2 : Int32) (a3 : Int32) (a4 : Int32) (Φ : Int32 → Prop) : Prop := S_Bike_hasPiece k M ((M k 7) + a1) (fun r1 => ((r1 = 0 → Φ 0) ∧ (¬ (r1 = 0) → vp_in (M k 5) 3 ∧ vp_in ((M k 7) + a1) 6 ∧ S_Bike_loadBy M (M (k + 1) (Int32.toNatClampNeg (M k 5))) a3 a2 (M (k + 5) (Int32.toNatClampNeg ((M k 7) + a1))) (fun r3 => ((r3 ≤ a4 → vp_in (M k 5) 3 ∧ S_Bike_turnsBy M (M (k + 1) (Int32.toNatClampNeg (M k 5))) a3 a2 (fun r5 => Φ r5)) ∧ (¬ (r3 ≤ a4) → Φ 0))))))
set_option maxRecDepth 100000 in
set_option maxHeartbeats 4000000 in
theorem sp_Bike_turnsAhead {d : Nat} {Post : Option Value → Mm → Prop} {k : Nat} {M : Mm} {a1 : Int32} {a2 : Int32} {a3 : Int32} {a4 : Int32} {Φ : Int32 → Prop} (hk : k = 7 ∨ k = 13) (h : S_Bike_turnsAhead k M a1 a2 a3 a4 Φ) (hΦ : ∀ r, Φ r → Post (some (.int r)) M) : Ct (d + 3) 109 [.ref k, .int a1, .int a2, .int a3, .int a4] M Post := by
  rcases hk with rfl | rfl
  · refine Ct.go (n := 6) (E := [some (.ref 7), some (.int a1), some (.int a2), some (.int a3), some (.int a4), none]) (by decide +kernel) (by simp [Value.category]) rfl ?_
    refine WP.blk [(.aload_n 0, 1, (0, 0), .null), (.getfield 34, 3, (1, 7), .null), (.iload_n 1, 1, (0, 0), .null), (.iadd, 1, (0, 0), .null), (.istore 5, 2, (0, 0), .null), (.aload_n 0, 1, (0, 0), .null), (.iload 5, 2, (0, 0), .null)] (G := True) (c' := (11, [some (.ref 7), some (.int a1), some (.int a2), some (.int a3), some (.int a4), some (.int ((M 7 7) + a1))], [.int ((M 7 7) + a1), .ref 7], M)) (by decide +kernel) rfl trivial ?_
    refine WP.call (.invokevirtual 92, 3, (45, 2), .retAddr 1) (by decide +kernel) rfl (sp_Bike_hasPiece (d := d + 0) (by decide) h (fun r1 h => ?_))
    show WP (Ct (d + 2)) 109 Post (14, [some (.ref 7), some (.int a1), some (.int a2), some (.int a3), some (.int a4), some (.int ((M 7 7) + a1))], [.int r1], M)
    refine WP.br (.ifCond .ne 5, 3, (19, 0), .null) (by decide +kernel) rfl (fun c2 => ?_) (fun c2 => ?_)
    · replace h := h.2 c2
      refine WP.blk [(.aload_n 0, 1, (0, 0), .null), (.getfield 40, 3, (1, 9), .null), (.aload_n 0, 1, (0, 0), .null), (.getfield 28, 3, (1, 5), .null), (.iaload, 1, (0, 0), .null), (.iload_n 3, 1, (0, 0), .null), (.iload_n 2, 1, (0, 0), .null), (.aload_n 0, 1, (0, 0), .null), (.getfield 53, 3, (1, 13), .null), (.iload 5, 2, (0, 0), .null), (.iaload, 1, (0, 0), .null)] (G := vp_in (M 7 5) 3 ∧ vp_in ((M 7 7) + a1) 6 ∧ True) (c' := (37, [some (.ref 7), some (.int a1), some (.int a2), some (.int a3), some (.int a4), some (.int ((M 7 7) + a1))], [.int (M 12 (Int32.toNatClampNeg ((M 7 7) + a1))), .int a2, .int a3, .int (M 8 (Int32.toNatClampNeg (M 7 5)))], M)) (by decide +kernel) rfl ⟨h.1, h.2.1, trivial⟩ ?_
      replace h := h.2.2
      refine WP.call (.invokestatic 76, 3, (52, 4), .null) (by decide +kernel) rfl (sp_Bike_loadBy (d := d + 1) h (fun r3 h => ?_))
      show WP (Ct (d + 2)) 109 Post (40, [some (.ref 7), some (.int a1), some (.int a2), some (.int a3), some (.int a4), some (.int ((M 7 7) + a1))], [.int r3], M)
      refine WP.blk [(.iload 4, 2, (0, 0), .null)] (G := True) (c' := (42, [some (.ref 7), some (.int a1), some (.int a2), some (.int a3), some (.int a4), some (.int ((M 7 7) + a1))], [.int a4, .int r3], M)) (by decide +kernel) rfl trivial ?_
      refine WP.br (.if_icmp .le 5, 3, (47, 0), .null) (by decide +kernel) rfl (fun c4 => ?_) (fun c4 => ?_)
      · replace h := h.1 c4
        refine WP.blk [(.aload_n 0, 1, (0, 0), .null), (.getfield 40, 3, (1, 9), .null), (.aload_n 0, 1, (0, 0), .null), (.getfield 28, 3, (1, 5), .null), (.iaload, 1, (0, 0), .null), (.iload_n 3, 1, (0, 0), .null), (.iload_n 2, 1, (0, 0), .null)] (G := vp_in (M 7 5) 3 ∧ True) (c' := (58, [some (.ref 7), some (.int a1), some (.int a2), some (.int a3), some (.int a4), some (.int ((M 7 7) + a1))], [.int a2, .int a3, .int (M 8 (Int32.toNatClampNeg (M 7 5)))], M)) (by decide +kernel) rfl ⟨h.1, trivial⟩ ?_
        replace h := h.2
        refine WP.call (.invokestatic 80, 3, (57, 3), .null) (by decide +kernel) rfl (sp_Bike_turnsBy (d := d + 1) h (fun r5 h => ?_))
        show WP (Ct (d + 2)) 109 Post (61, [some (.ref 7), some (.int a1), some (.int a2), some (.int a3), some (.int a4), some (.int ((M 7 7) + a1))], [.int r5], M)
        exact WP.ret (.ireturn, 1, (0, 0), .null) (rk := 1) (by decide +kernel) (by decide +kernel) rfl trivial (hΦ _ h)
      · replace h := h.2 c4
        refine WP.blk [(.iconst 0, 1, (0, 0), .int 0)] (G := True) (c' := (46, [some (.ref 7), some (.int a1), some (.int a2), some (.int a3), some (.int a4), some (.int ((M 7 7) + a1))], [.int 0], M)) (by decide +kernel) rfl trivial ?_
        exact WP.ret (.ireturn, 1, (0, 0), .null) (rk := 1) (by decide +kernel) (by decide +kernel) rfl trivial (hΦ _ h)
    · replace h := h.1 (Classical.not_not.mp c2)
      refine WP.blk [(.iconst 0, 1, (0, 0), .int 0)] (G := True) (c' := (18, [some (.ref 7), some (.int a1), some (.int a2), some (.int a3), some (.int a4), some (.int ((M 7 7) + a1))], [.int 0], M)) (by decide +kernel) rfl trivial ?_
      exact WP.ret (.ireturn, 1, (0, 0), .null) (rk := 1) (by decide +kernel) (by decide +kernel) rfl trivial (hΦ _ h)
  · refine Ct.go (n := 6) (E := [some (.ref 13), some (.int a1), some (.int a2), some (.int a3), some (.int a4), none]) (by decide +kernel) (by simp [Value.category]) rfl ?_
    refine WP.blk [(.aload_n 0, 1, (0, 0), .null), (.getfield 34, 3, (1, 7), .null), (.iload_n 1, 1, (0, 0), .null), (.iadd, 1, (0, 0), .null), (.istore 5, 2, (0, 0), .null), (.aload_n 0, 1, (0, 0), .null), (.iload 5, 2, (0, 0), .null)] (G := True) (c' := (11, [some (.ref 13), some (.int a1), some (.int a2), some (.int a3), some (.int a4), some (.int ((M 13 7) + a1))], [.int ((M 13 7) + a1), .ref 13], M)) (by decide +kernel) rfl trivial ?_
    refine WP.call (.invokevirtual 92, 3, (45, 2), .retAddr 1) (by decide +kernel) rfl (sp_Bike_hasPiece (d := d + 0) (by decide) h (fun r1 h => ?_))
    show WP (Ct (d + 2)) 109 Post (14, [some (.ref 13), some (.int a1), some (.int a2), some (.int a3), some (.int a4), some (.int ((M 13 7) + a1))], [.int r1], M)
    refine WP.br (.ifCond .ne 5, 3, (19, 0), .null) (by decide +kernel) rfl (fun c2 => ?_) (fun c2 => ?_)
    · replace h := h.2 c2
      refine WP.blk [(.aload_n 0, 1, (0, 0), .null), (.getfield 40, 3, (1, 9), .null), (.aload_n 0, 1, (0, 0), .null), (.getfield 28, 3, (1, 5), .null), (.iaload, 1, (0, 0), .null), (.iload_n 3, 1, (0, 0), .null), (.iload_n 2, 1, (0, 0), .null), (.aload_n 0, 1, (0, 0), .null), (.getfield 53, 3, (1, 13), .null), (.iload 5, 2, (0, 0), .null), (.iaload, 1, (0, 0), .null)] (G := vp_in (M 13 5) 3 ∧ vp_in ((M 13 7) + a1) 6 ∧ True) (c' := (37, [some (.ref 13), some (.int a1), some (.int a2), some (.int a3), some (.int a4), some (.int ((M 13 7) + a1))], [.int (M 18 (Int32.toNatClampNeg ((M 13 7) + a1))), .int a2, .int a3, .int (M 14 (Int32.toNatClampNeg (M 13 5)))], M)) (by decide +kernel) rfl ⟨h.1, h.2.1, trivial⟩ ?_
      replace h := h.2.2
      refine WP.call (.invokestatic 76, 3, (52, 4), .null) (by decide +kernel) rfl (sp_Bike_loadBy (d := d + 1) h (fun r3 h => ?_))
      show WP (Ct (d + 2)) 109 Post (40, [some (.ref 13), some (.int a1), some (.int a2), some (.int a3), some (.int a4), some (.int ((M 13 7) + a1))], [.int r3], M)
      refine WP.blk [(.iload 4, 2, (0, 0), .null)] (G := True) (c' := (42, [some (.ref 13), some (.int a1), some (.int a2), some (.int a3), some (.int a4), some (.int ((M 13 7) + a1))], [.int a4, .int r3], M)) (by decide +kernel) rfl trivial ?_
      refine WP.br (.if_icmp .le 5, 3, (47, 0), .null) (by decide +kernel) rfl (fun c4 => ?_) (fun c4 => ?_)
      · replace h := h.1 c4
        refine WP.blk [(.aload_n 0, 1, (0, 0), .null), (.getfield 40, 3, (1, 9), .null), (.aload_n 0, 1, (0, 0), .null), (.getfield 28, 3, (1, 5), .null), (.iaload, 1, (0, 0), .null), (.iload_n 3, 1, (0, 0), .null), (.iload_n 2, 1, (0, 0), .null)] (G := vp_in (M 13 5) 3 ∧ True) (c' := (58, [some (.ref 13), some (.int a1), some (.int a2), some (.int a3), some (.int a4), some (.int ((M 13 7) + a1))], [.int a2, .int a3, .int (M 14 (Int32.toNatClampNeg (M 13 5)))], M)) (by decide +kernel) rfl ⟨h.1, trivial⟩ ?_
        replace h := h.2
        refine WP.call (.invokestatic 80, 3, (57, 3), .null) (by decide +kernel) rfl (sp_Bike_turnsBy (d := d + 1) h (fun r5 h => ?_))
        show WP (Ct (d + 2)) 109 Post (61, [some (.ref 13), some (.int a1), some (.int a2), some (.int a3), some (.int a4), some (.int ((M 13 7) + a1))], [.int r5], M)
        exact WP.ret (.ireturn, 1, (0, 0), .null) (rk := 1) (by decide +kernel) (by decide +kernel) rfl trivial (hΦ _ h)
      · replace h := h.2 c4
        refine WP.blk [(.iconst 0, 1, (0, 0), .int 0)] (G := True) (c' := (46, [some (.ref 13), some (.int a1), some (.int a2), some (.int a3), some (.int a4), some (.int ((M 13 7) + a1))], [.int 0], M)) (by decide +kernel) rfl trivial ?_
        exact WP.ret (.ireturn, 1, (0, 0), .null) (rk := 1) (by decide +kernel) (by decide +kernel) rfl trivial (hΦ _ h)
    · replace h := h.1 (Classical.not_not.mp c2)
      refine WP.blk [(.iconst 0, 1, (0, 0), .int 0)] (G := True) (c' := (18, [some (.ref 13), some (.int a1), some (.int a2), some (.int a3), some (.int a4), some (.int ((M 13 7) + a1))], [.int 0], M)) (by decide +kernel) rfl trivial ?_
      exact WP.ret (.ireturn, 1, (0, 0), .null) (rk := 1) (by decide +kernel) (by decide +kernel) rfl trivial (hΦ _ h)
/-- GearRoad$Bike.gear()I -/
def S_Bike_gear (k : Nat) (M : Mm) (Φ : Int32 → Prop) : Prop := Φ (((M k 5) * 6) + (M k 6))
set_option maxRecDepth 100000 in
set_option maxHeartbeats 4000000 in
theorem sp_Bike_gear {d : Nat} {Post : Option Value → Mm → Prop} {k : Nat} {M : Mm} {Φ : Int32 → Prop} (hk : k = 7 ∨ k = 13) (h : S_Bike_gear k M Φ) (hΦ : ∀ r, Φ r → Post (some (.int r)) M) : Ct (d + 1) 46 [.ref k] M Post := by
  rcases hk with rfl | rfl
  · refine Ct.go (n := 1) (E := [some (.ref 7)]) (by decide +kernel) (by simp [Value.category]) rfl ?_
    refine WP.blk [(.aload_n 0, 1, (0, 0), .null), (.getfield 28, 3, (1, 5), .null), (.bipush 6, 2, (0, 0), .int 6), (.imul, 1, (0, 0), .null), (.aload_n 0, 1, (0, 0), .null), (.getfield 31, 3, (1, 6), .null), (.iadd, 1, (0, 0), .null)] (G := True) (c' := (12, [some (.ref 7)], [.int (((M 7 5) * 6) + (M 7 6))], M)) (by decide +kernel) rfl trivial ?_
    exact WP.ret (.ireturn, 1, (0, 0), .null) (rk := 1) (by decide +kernel) (by decide +kernel) rfl trivial (hΦ _ h)
  · refine Ct.go (n := 1) (E := [some (.ref 13)]) (by decide +kernel) (by simp [Value.category]) rfl ?_
    refine WP.blk [(.aload_n 0, 1, (0, 0), .null), (.getfield 28, 3, (1, 5), .null), (.bipush 6, 2, (0, 0), .int 6), (.imul, 1, (0, 0), .null), (.aload_n 0, 1, (0, 0), .null), (.getfield 31, 3, (1, 6), .null), (.iadd, 1, (0, 0), .null)] (G := True) (c' := (12, [some (.ref 13)], [.int (((M 13 5) * 6) + (M 13 6))], M)) (by decide +kernel) rfl trivial ?_
    exact WP.ret (.ireturn, 1, (0, 0), .null) (rk := 1) (by decide +kernel) (by decide +kernel) rfl trivial (hΦ _ h)
/-- java/lang/Math.min(II)I -/
def S_Math_min (M : Mm) (a1 : Int32) (a2 : Int32) (Φ : Int32 → Prop) : Prop := ((a2 < a1 → Φ a2) ∧ (¬ (a2 < a1) → Φ a1))
set_option maxRecDepth 100000 in
set_option maxHeartbeats 4000000 in
theorem sp_Math_min {d : Nat} {Post : Option Value → Mm → Prop} {M : Mm} {a1 : Int32} {a2 : Int32} {Φ : Int32 → Prop} (h : S_Math_min M a1 a2 Φ) (hΦ : ∀ r, Φ r → Post (some (.int r)) M) : Ct (d + 1) 54 [.int a1, .int a2] M Post := by
  refine Ct.go (n := 2) (E := [some (.int a1), some (.int a2)]) (by decide +kernel) (by simp [Value.category]) rfl ?_
  refine WP.blk [(.iload_n 0, 1, (0, 0), .null), (.iload_n 1, 1, (0, 0), .null)] (G := True) (c' := (2, [some (.int a1), some (.int a2)], [.int a2, .int a1], M)) (by decide +kernel) rfl trivial ?_
  refine WP.br (.if_icmp .gt 7, 3, (9, 0), .null) (by decide +kernel) rfl (fun c1 => ?_) (fun c1 => ?_)
  · replace h := h.1 c1
    refine WP.blk [(.iload_n 1, 1, (0, 0), .null)] (G := True) (c' := (10, [some (.int a1), some (.int a2)], [.int a2], M)) (by decide +kernel) rfl trivial ?_
    exact WP.ret (.ireturn, 1, (0, 0), .null) (rk := 1) (by decide +kernel) (by decide +kernel) rfl trivial (hΦ _ h)
  · replace h := h.2 c1
    refine WP.blk [(.iload_n 0, 1, (0, 0), .null), (.goto 4, 3, (10, 0), .null)] (G := True) (c' := (10, [some (.int a1), some (.int a2)], [.int a1], M)) (by decide +kernel) rfl trivial ?_
    exact WP.ret (.ireturn, 1, (0, 0), .null) (rk := 1) (by decide +kernel) (by decide +kernel) rfl trivial (hΦ _ h)
/-- GearRoad$Bike.tenthsBorne(II)I -/
def D_Bike_tenthsBorne_25 (k : Nat) (M : Mm) (Φ : Int32 → Prop) : Int32 × Int32 × Int32 → Prop
  | (x1, x2, x3) => S_Bike_gear k M (fun r4 => vp_in x1 6 ∧ S_Math_min M 9 ((M (k + 5) (Int32.toNatClampNeg x1)) + 3) (fun r5 => S_Bike_bears k M r4 r5 (fun r6 => ((r6 = 0 → Φ x3) ∧ (¬ (r6 = 0) → Φ (x3 + x2))))))
def S_Bike_tenthsBorne (k : Nat) (M : Mm) (a1 : Int32) (a2 : Int32) (Φ : Int32 → Prop) : Prop := S_Bike_gear k M (fun r1 => vp_in a1 6 ∧ S_Bike_bears k M r1 (M (k + 5) (Int32.toNatClampNeg a1)) (fun r2 => ((r2 = 0 → D_Bike_tenthsBorne_25 k M Φ (a1, a2, 0)) ∧ (¬ (r2 = 0) → D_Bike_tenthsBorne_25 k M Φ (a1, a2, (10 - a2))))))
set_option maxRecDepth 100000 in
set_option maxHeartbeats 4000000 in
theorem L_Bike_tenthsBorne_25 {d : Nat} {Post : Option Value → Mm → Prop} {k : Nat} {M : Mm} {Φ : Int32 → Prop} (hk : k = 7 ∨ k = 13) (hΦ : ∀ r, Φ r → Post (some (.int r)) M) : ∀ (x1 : Int32) (x2 : Int32) (x3 : Int32), D_Bike_tenthsBorne_25 k M Φ (x1, x2, x3) → WP (Ct (d + 5)) 113 Post (25, [some (.ref k), some (.int x1), some (.int x2), none], [.int x3], M) := by
  rcases hk with rfl | rfl
  · intro x1 x2 x3 h
    replace h : S_Bike_gear 7 M (fun r4 => vp_in x1 6 ∧ S_Math_min M 9 ((M 12 (Int32.toNatClampNeg x1)) + 3) (fun r5 => S_Bike_bears 7 M r4 r5 (fun r6 => ((r6 = 0 → Φ x3) ∧ (¬ (r6 = 0) → Φ (x3 + x2)))))) := h
    refine WP.blk [(.istore_n 3, 1, (0, 0), .null), (.aload_n 0, 1, (0, 0), .null), (.aload_n 0, 1, (0, 0), .null)] (G := True) (c' := (28, [some (.ref 7), some (.int x1), some (.int x2), some (.int x3)], [.ref 7, .ref 7], M)) (by decide +kernel) rfl trivial ?_
    refine WP.call (.invokevirtual 95, 3, (46, 1), .retAddr 1) (by decide +kernel) rfl (sp_Bike_gear (d := d + 4) (by decide) h (fun r4 h => ?_))
    show WP (Ct (d + 5)) 113 Post (31, [some (.ref 7), some (.int x1), some (.int x2), some (.int x3)], [.int r4, .ref 7], M)
    refine WP.blk [(.bipush 9, 2, (0, 0), .int 9), (.aload_n 0, 1, (0, 0), .null), (.getfield 53, 3, (1, 13), .null), (.iload_n 1, 1, (0, 0), .null), (.iaload, 1, (0, 0), .null), (.iconst 3, 1, (0, 0), .int 3), (.iadd, 1, (0, 0), .null)] (G := vp_in x1 6 ∧ True) (c' := (41, [some (.ref 7), some (.int x1), some (.int x2), some (.int x3)], [.int ((M 12 (Int32.toNatClampNeg x1)) + 3), .int 9, .int r4, .ref 7], M)) (by decide +kernel) rfl ⟨h.1, trivial⟩ ?_
    replace h := h.2
    refine WP.call (.invokestatic 99, 3, (54, 2), .null) (by decide +kernel) rfl (sp_Math_min (d := d + 4) h (fun r5 h => ?_))
    show WP (Ct (d + 5)) 113 Post (44, [some (.ref 7), some (.int x1), some (.int x2), some (.int x3)], [.int r5, .int r4, .ref 7], M)
    refine WP.call (.invokevirtual 88, 3, (47, 3), .retAddr 1) (by decide +kernel) rfl (sp_Bike_bears (d := d + 0) (by decide) h (fun r6 h => ?_))
    show WP (Ct (d + 5)) 113 Post (47, [some (.ref 7), some (.int x1), some (.int x2), some (.int x3)], [.int r6], M)
    refine WP.br (.ifCond .eq 9, 3, (56, 0), .null) (by decide +kernel) rfl (fun c7 => ?_) (fun c7 => ?_)
    · replace h := h.1 c7
      refine WP.blk [(.iload_n 3, 1, (0, 0), .null)] (G := True) (c' := (57, [some (.ref 7), some (.int x1), some (.int x2), some (.int x3)], [.int x3], M)) (by decide +kernel) rfl trivial ?_
      exact WP.ret (.ireturn, 1, (0, 0), .null) (rk := 1) (by decide +kernel) (by decide +kernel) rfl trivial (hΦ _ h)
    · replace h := h.2 c7
      refine WP.blk [(.iload_n 3, 1, (0, 0), .null), (.iload_n 2, 1, (0, 0), .null), (.iadd, 1, (0, 0), .null), (.goto 4, 3, (57, 0), .null)] (G := True) (c' := (57, [some (.ref 7), some (.int x1), some (.int x2), some (.int x3)], [.int (x3 + x2)], M)) (by decide +kernel) rfl trivial ?_
      exact WP.ret (.ireturn, 1, (0, 0), .null) (rk := 1) (by decide +kernel) (by decide +kernel) rfl trivial (hΦ _ h)
  · intro x1 x2 x3 h
    replace h : S_Bike_gear 13 M (fun r4 => vp_in x1 6 ∧ S_Math_min M 9 ((M 18 (Int32.toNatClampNeg x1)) + 3) (fun r5 => S_Bike_bears 13 M r4 r5 (fun r6 => ((r6 = 0 → Φ x3) ∧ (¬ (r6 = 0) → Φ (x3 + x2)))))) := h
    refine WP.blk [(.istore_n 3, 1, (0, 0), .null), (.aload_n 0, 1, (0, 0), .null), (.aload_n 0, 1, (0, 0), .null)] (G := True) (c' := (28, [some (.ref 13), some (.int x1), some (.int x2), some (.int x3)], [.ref 13, .ref 13], M)) (by decide +kernel) rfl trivial ?_
    refine WP.call (.invokevirtual 95, 3, (46, 1), .retAddr 1) (by decide +kernel) rfl (sp_Bike_gear (d := d + 4) (by decide) h (fun r4 h => ?_))
    show WP (Ct (d + 5)) 113 Post (31, [some (.ref 13), some (.int x1), some (.int x2), some (.int x3)], [.int r4, .ref 13], M)
    refine WP.blk [(.bipush 9, 2, (0, 0), .int 9), (.aload_n 0, 1, (0, 0), .null), (.getfield 53, 3, (1, 13), .null), (.iload_n 1, 1, (0, 0), .null), (.iaload, 1, (0, 0), .null), (.iconst 3, 1, (0, 0), .int 3), (.iadd, 1, (0, 0), .null)] (G := vp_in x1 6 ∧ True) (c' := (41, [some (.ref 13), some (.int x1), some (.int x2), some (.int x3)], [.int ((M 18 (Int32.toNatClampNeg x1)) + 3), .int 9, .int r4, .ref 13], M)) (by decide +kernel) rfl ⟨h.1, trivial⟩ ?_
    replace h := h.2
    refine WP.call (.invokestatic 99, 3, (54, 2), .null) (by decide +kernel) rfl (sp_Math_min (d := d + 4) h (fun r5 h => ?_))
    show WP (Ct (d + 5)) 113 Post (44, [some (.ref 13), some (.int x1), some (.int x2), some (.int x3)], [.int r5, .int r4, .ref 13], M)
    refine WP.call (.invokevirtual 88, 3, (47, 3), .retAddr 1) (by decide +kernel) rfl (sp_Bike_bears (d := d + 0) (by decide) h (fun r6 h => ?_))
    show WP (Ct (d + 5)) 113 Post (47, [some (.ref 13), some (.int x1), some (.int x2), some (.int x3)], [.int r6], M)
    refine WP.br (.ifCond .eq 9, 3, (56, 0), .null) (by decide +kernel) rfl (fun c7 => ?_) (fun c7 => ?_)
    · replace h := h.1 c7
      refine WP.blk [(.iload_n 3, 1, (0, 0), .null)] (G := True) (c' := (57, [some (.ref 13), some (.int x1), some (.int x2), some (.int x3)], [.int x3], M)) (by decide +kernel) rfl trivial ?_
      exact WP.ret (.ireturn, 1, (0, 0), .null) (rk := 1) (by decide +kernel) (by decide +kernel) rfl trivial (hΦ _ h)
    · replace h := h.2 c7
      refine WP.blk [(.iload_n 3, 1, (0, 0), .null), (.iload_n 2, 1, (0, 0), .null), (.iadd, 1, (0, 0), .null), (.goto 4, 3, (57, 0), .null)] (G := True) (c' := (57, [some (.ref 13), some (.int x1), some (.int x2), some (.int x3)], [.int (x3 + x2)], M)) (by decide +kernel) rfl trivial ?_
      exact WP.ret (.ireturn, 1, (0, 0), .null) (rk := 1) (by decide +kernel) (by decide +kernel) rfl trivial (hΦ _ h)
set_option maxRecDepth 100000 in
set_option maxHeartbeats 4000000 in
theorem sp_Bike_tenthsBorne {d : Nat} {Post : Option Value → Mm → Prop} {k : Nat} {M : Mm} {a1 : Int32} {a2 : Int32} {Φ : Int32 → Prop} (hk : k = 7 ∨ k = 13) (h : S_Bike_tenthsBorne k M a1 a2 Φ) (hΦ : ∀ r, Φ r → Post (some (.int r)) M) : Ct (d + 6) 113 [.ref k, .int a1, .int a2] M Post := by
  rcases hk with rfl | rfl
  · refine Ct.go (n := 4) (E := [some (.ref 7), some (.int a1), some (.int a2), none]) (by decide +kernel) (by simp [Value.category]) rfl ?_
    refine WP.blk [(.aload_n 0, 1, (0, 0), .null), (.aload_n 0, 1, (0, 0), .null)] (G := True) (c' := (2, [some (.ref 7), some (.int a1), some (.int a2), none], [.ref 7, .ref 7], M)) (by decide +kernel) rfl trivial ?_
    refine WP.call (.invokevirtual 95, 3, (46, 1), .retAddr 1) (by decide +kernel) rfl (sp_Bike_gear (d := d + 4) (by decide) h (fun r1 h => ?_))
    show WP (Ct (d + 5)) 113 Post (5, [some (.ref 7), some (.int a1), some (.int a2), none], [.int r1, .ref 7], M)
    refine WP.blk [(.aload_n 0, 1, (0, 0), .null), (.getfield 53, 3, (1, 13), .null), (.iload_n 1, 1, (0, 0), .null), (.iaload, 1, (0, 0), .null)] (G := vp_in a1 6 ∧ True) (c' := (11, [some (.ref 7), some (.int a1), some (.int a2), none], [.int (M 12 (Int32.toNatClampNeg a1)), .int r1, .ref 7], M)) (by decide +kernel) rfl ⟨h.1, trivial⟩ ?_
    replace h := h.2
    refine WP.call (.invokevirtual 88, 3, (47, 3), .retAddr 1) (by decide +kernel) rfl (sp_Bike_bears (d := d + 0) (by decide) h (fun r2 h => ?_))
    show WP (Ct (d + 5)) 113 Post (14, [some (.ref 7), some (.int a1), some (.int a2), none], [.int r2], M)
    refine WP.br (.ifCond .eq 10, 3, (24, 0), .null) (by decide +kernel) rfl (fun c3 => ?_) (fun c3 => ?_)
    · replace h := h.1 c3
      refine WP.blk [(.iconst 0, 1, (0, 0), .int 0)] (G := True) (c' := (25, [some (.ref 7), some (.int a1), some (.int a2), none], [.int 0], M)) (by decide +kernel) rfl trivial ?_
      exact L_Bike_tenthsBorne_25 (by decide) hΦ _ _ _ h
    · replace h := h.2 c3
      refine WP.blk [(.bipush 10, 2, (0, 0), .int 10), (.iload_n 2, 1, (0, 0), .null), (.isub, 1, (0, 0), .null), (.goto 4, 3, (25, 0), .null)] (G := True) (c' := (25, [some (.ref 7), some (.int a1), some (.int a2), none], [.int (10 - a2)], M)) (by decide +kernel) rfl trivial ?_
      exact L_Bike_tenthsBorne_25 (by decide) hΦ _ _ _ h
  · refine Ct.go (n := 4) (E := [some (.ref 13), some (.int a1), some (.int a2), none]) (by decide +kernel) (by simp [Value.category]) rfl ?_
    refine WP.blk [(.aload_n 0, 1, (0, 0), .null), (.aload_n 0, 1, (0, 0), .null)] (G := True) (c' := (2, [some (.ref 13), some (.int a1), some (.int a2), none], [.ref 13, .ref 13], M)) (by decide +kernel) rfl trivial ?_
    refine WP.call (.invokevirtual 95, 3, (46, 1), .retAddr 1) (by decide +kernel) rfl (sp_Bike_gear (d := d + 4) (by decide) h (fun r1 h => ?_))
    show WP (Ct (d + 5)) 113 Post (5, [some (.ref 13), some (.int a1), some (.int a2), none], [.int r1, .ref 13], M)
    refine WP.blk [(.aload_n 0, 1, (0, 0), .null), (.getfield 53, 3, (1, 13), .null), (.iload_n 1, 1, (0, 0), .null), (.iaload, 1, (0, 0), .null)] (G := vp_in a1 6 ∧ True) (c' := (11, [some (.ref 13), some (.int a1), some (.int a2), none], [.int (M 18 (Int32.toNatClampNeg a1)), .int r1, .ref 13], M)) (by decide +kernel) rfl ⟨h.1, trivial⟩ ?_
    replace h := h.2
    refine WP.call (.invokevirtual 88, 3, (47, 3), .retAddr 1) (by decide +kernel) rfl (sp_Bike_bears (d := d + 0) (by decide) h (fun r2 h => ?_))
    show WP (Ct (d + 5)) 113 Post (14, [some (.ref 13), some (.int a1), some (.int a2), none], [.int r2], M)
    refine WP.br (.ifCond .eq 10, 3, (24, 0), .null) (by decide +kernel) rfl (fun c3 => ?_) (fun c3 => ?_)
    · replace h := h.1 c3
      refine WP.blk [(.iconst 0, 1, (0, 0), .int 0)] (G := True) (c' := (25, [some (.ref 13), some (.int a1), some (.int a2), none], [.int 0], M)) (by decide +kernel) rfl trivial ?_
      exact L_Bike_tenthsBorne_25 (by decide) hΦ _ _ _ h
    · replace h := h.2 c3
      refine WP.blk [(.bipush 10, 2, (0, 0), .int 10), (.iload_n 2, 1, (0, 0), .null), (.isub, 1, (0, 0), .null), (.goto 4, 3, (25, 0), .null)] (G := True) (c' := (25, [some (.ref 13), some (.int a1), some (.int a2), none], [.int (10 - a2)], M)) (by decide +kernel) rfl trivial ?_
      exact L_Bike_tenthsBorne_25 (by decide) hΦ _ _ _ h
/-- GearRoad$Bike.canRide()Z -/
def S_Bike_canRide (k : Nat) (M : Mm) (Φ : Int32 → Prop) : Prop := S_Bike_hasPiece k M (M k 7) (fun r1 => ((r1 = 0 → Φ 0) ∧ (¬ (r1 = 0) → S_Bike_gear k M (fun r3 => vp_in (M k 7) 6 ∧ S_Bike_bears k M r3 (M (k + 5) (Int32.toNatClampNeg (M k 7))) (fun r4 => ((r4 = 0 → Φ 0) ∧ (¬ (r4 = 0) → Φ 1)))))))
set_option maxRecDepth 100000 in
set_option maxHeartbeats 4000000 in
theorem sp_Bike_canRide {d : Nat} {Post : Option Value → Mm → Prop} {k : Nat} {M : Mm} {Φ : Int32 → Prop} (hk : k = 7 ∨ k = 13) (h : S_Bike_canRide k M Φ) (hΦ : ∀ r, Φ r → Post (some (.int r)) M) : Ct (d + 6) 44 [.ref k] M Post := by
  rcases hk with rfl | rfl
  · refine Ct.go (n := 1) (E := [some (.ref 7)]) (by decide +kernel) (by simp [Value.category]) rfl ?_
    refine WP.blk [(.aload_n 0, 1, (0, 0), .null), (.aload_n 0, 1, (0, 0), .null), (.getfield 34, 3, (1, 7), .null)] (G := True) (c' := (5, [some (.ref 7)], [.int (M 7 7), .ref 7], M)) (by decide +kernel) rfl trivial ?_
    refine WP.call (.invokevirtual 92, 3, (45, 2), .retAddr 1) (by decide +kernel) rfl (sp_Bike_hasPiece (d := d + 3) (by decide) h (fun r1 h => ?_))
    show WP (Ct (d + 5)) 44 Post (8, [some (.ref 7)], [.int r1], M)
    refine WP.br (.ifCond .eq 27, 3, (35, 0), .null) (by decide +kernel) rfl (fun c2 => ?_) (fun c2 => ?_)
    · replace h := h.1 c2
      refine WP.blk [(.iconst 0, 1, (0, 0), .int 0)] (G := True) (c' := (36, [some (.ref 7)], [.int 0], M)) (by decide +kernel) rfl trivial ?_
      exact WP.ret (.ireturn, 1, (0, 0), .null) (rk := 2) (by decide +kernel) (by decide +kernel) rfl (by decide) (hΦ _ h)
    · replace h := h.2 c2
      refine WP.blk [(.aload_n 0, 1, (0, 0), .null), (.aload_n 0, 1, (0, 0), .null)] (G := True) (c' := (13, [some (.ref 7)], [.ref 7, .ref 7], M)) (by decide +kernel) rfl trivial ?_
      refine WP.call (.invokevirtual 95, 3, (46, 1), .retAddr 1) (by decide +kernel) rfl (sp_Bike_gear (d := d + 4) (by decide) h (fun r3 h => ?_))
      show WP (Ct (d + 5)) 44 Post (16, [some (.ref 7)], [.int r3, .ref 7], M)
      refine WP.blk [(.aload_n 0, 1, (0, 0), .null), (.getfield 53, 3, (1, 13), .null), (.aload_n 0, 1, (0, 0), .null), (.getfield 34, 3, (1, 7), .null), (.iaload, 1, (0, 0), .null)] (G := vp_in (M 7 7) 6 ∧ True) (c' := (25, [some (.ref 7)], [.int (M 12 (Int32.toNatClampNeg (M 7 7))), .int r3, .ref 7], M)) (by decide +kernel) rfl ⟨h.1, trivial⟩ ?_
      replace h := h.2
      refine WP.call (.invokevirtual 88, 3, (47, 3), .retAddr 1) (by decide +kernel) rfl (sp_Bike_bears (d := d + 0) (by decide) h (fun r4 h => ?_))
      show WP (Ct (d + 5)) 44 Post (28, [some (.ref 7)], [.int r4], M)
      refine WP.br (.ifCond .eq 7, 3, (35, 0), .null) (by decide +kernel) rfl (fun c5 => ?_) (fun c5 => ?_)
      · replace h := h.1 c5
        refine WP.blk [(.iconst 0, 1, (0, 0), .int 0)] (G := True) (c' := (36, [some (.ref 7)], [.int 0], M)) (by decide +kernel) rfl trivial ?_
        exact WP.ret (.ireturn, 1, (0, 0), .null) (rk := 2) (by decide +kernel) (by decide +kernel) rfl (by decide) (hΦ _ h)
      · replace h := h.2 c5
        refine WP.blk [(.iconst 1, 1, (0, 0), .int 1), (.goto 4, 3, (36, 0), .null)] (G := True) (c' := (36, [some (.ref 7)], [.int 1], M)) (by decide +kernel) rfl trivial ?_
        exact WP.ret (.ireturn, 1, (0, 0), .null) (rk := 2) (by decide +kernel) (by decide +kernel) rfl (by decide) (hΦ _ h)
  · refine Ct.go (n := 1) (E := [some (.ref 13)]) (by decide +kernel) (by simp [Value.category]) rfl ?_
    refine WP.blk [(.aload_n 0, 1, (0, 0), .null), (.aload_n 0, 1, (0, 0), .null), (.getfield 34, 3, (1, 7), .null)] (G := True) (c' := (5, [some (.ref 13)], [.int (M 13 7), .ref 13], M)) (by decide +kernel) rfl trivial ?_
    refine WP.call (.invokevirtual 92, 3, (45, 2), .retAddr 1) (by decide +kernel) rfl (sp_Bike_hasPiece (d := d + 3) (by decide) h (fun r1 h => ?_))
    show WP (Ct (d + 5)) 44 Post (8, [some (.ref 13)], [.int r1], M)
    refine WP.br (.ifCond .eq 27, 3, (35, 0), .null) (by decide +kernel) rfl (fun c2 => ?_) (fun c2 => ?_)
    · replace h := h.1 c2
      refine WP.blk [(.iconst 0, 1, (0, 0), .int 0)] (G := True) (c' := (36, [some (.ref 13)], [.int 0], M)) (by decide +kernel) rfl trivial ?_
      exact WP.ret (.ireturn, 1, (0, 0), .null) (rk := 2) (by decide +kernel) (by decide +kernel) rfl (by decide) (hΦ _ h)
    · replace h := h.2 c2
      refine WP.blk [(.aload_n 0, 1, (0, 0), .null), (.aload_n 0, 1, (0, 0), .null)] (G := True) (c' := (13, [some (.ref 13)], [.ref 13, .ref 13], M)) (by decide +kernel) rfl trivial ?_
      refine WP.call (.invokevirtual 95, 3, (46, 1), .retAddr 1) (by decide +kernel) rfl (sp_Bike_gear (d := d + 4) (by decide) h (fun r3 h => ?_))
      show WP (Ct (d + 5)) 44 Post (16, [some (.ref 13)], [.int r3, .ref 13], M)
      refine WP.blk [(.aload_n 0, 1, (0, 0), .null), (.getfield 53, 3, (1, 13), .null), (.aload_n 0, 1, (0, 0), .null), (.getfield 34, 3, (1, 7), .null), (.iaload, 1, (0, 0), .null)] (G := vp_in (M 13 7) 6 ∧ True) (c' := (25, [some (.ref 13)], [.int (M 18 (Int32.toNatClampNeg (M 13 7))), .int r3, .ref 13], M)) (by decide +kernel) rfl ⟨h.1, trivial⟩ ?_
      replace h := h.2
      refine WP.call (.invokevirtual 88, 3, (47, 3), .retAddr 1) (by decide +kernel) rfl (sp_Bike_bears (d := d + 0) (by decide) h (fun r4 h => ?_))
      show WP (Ct (d + 5)) 44 Post (28, [some (.ref 13)], [.int r4], M)
      refine WP.br (.ifCond .eq 7, 3, (35, 0), .null) (by decide +kernel) rfl (fun c5 => ?_) (fun c5 => ?_)
      · replace h := h.1 c5
        refine WP.blk [(.iconst 0, 1, (0, 0), .int 0)] (G := True) (c' := (36, [some (.ref 13)], [.int 0], M)) (by decide +kernel) rfl trivial ?_
        exact WP.ret (.ireturn, 1, (0, 0), .null) (rk := 2) (by decide +kernel) (by decide +kernel) rfl (by decide) (hΦ _ h)
      · replace h := h.2 c5
        refine WP.blk [(.iconst 1, 1, (0, 0), .int 1), (.goto 4, 3, (36, 0), .null)] (G := True) (c' := (36, [some (.ref 13)], [.int 1], M)) (by decide +kernel) rfl trivial ?_
        exact WP.ret (.ireturn, 1, (0, 0), .null) (rk := 2) (by decide +kernel) (by decide +kernel) rfl (by decide) (hΦ _ h)
/-- GearRoad$Bike.turnsOf(I)I -/
def S_Bike_turnsOf (k : Nat) (M : Mm) (a1 : Int32) (Φ : Int32 → Prop) : Prop := S_Bike_hasGear k M a1 (fun r1 => ((r1 = 0 → Φ 0) ∧ (¬ (r1 = 0) → vp_in (a1 / 6) 3 ∧ vp_in (irm a1 6) 6 ∧ vp_in (irm a1 6) 6 ∧ S_Bike_turnsBy M (M (k + 1) (Int32.toNatClampNeg (a1 / 6))) (M (k + 3) (Int32.toNatClampNeg (irm a1 6))) (M (k + 2) (Int32.toNatClampNeg (irm a1 6))) (fun r3 => Φ r3))))
set_option maxRecDepth 100000 in
set_option maxHeartbeats 4000000 in
theorem sp_Bike_turnsOf {d : Nat} {Post : Option Value → Mm → Prop} {k : Nat} {M : Mm} {a1 : Int32} {Φ : Int32 → Prop} (hk : k = 7 ∨ k = 13) (h : S_Bike_turnsOf k M a1 Φ) (hΦ : ∀ r, Φ r → Post (some (.int r)) M) : Ct (d + 4) 56 [.ref k, .int a1] M Post := by
  rcases hk with rfl | rfl
  · refine Ct.go (n := 2) (E := [some (.ref 7), some (.int a1)]) (by decide +kernel) (by simp [Value.category]) rfl ?_
    refine WP.blk [(.aload_n 0, 1, (0, 0), .null), (.iload_n 1, 1, (0, 0), .null)] (G := True) (c' := (2, [some (.ref 7), some (.int a1)], [.int a1, .ref 7], M)) (by decide +kernel) rfl trivial ?_
    refine WP.call (.invokevirtual 73, 3, (48, 2), .retAddr 1) (by decide +kernel) rfl (sp_Bike_hasGear (d := d + 0) (by decide) h (fun r1 h => ?_))
    show WP (Ct (d + 3)) 56 Post (5, [some (.ref 7), some (.int a1)], [.int r1], M)
    refine WP.br (.ifCond .ne 5, 3, (10, 0), .null) (by decide +kernel) rfl (fun c2 => ?_) (fun c2 => ?_)
    · replace h := h.2 c2
      refine WP.blk [(.aload_n 0, 1, (0, 0), .null), (.getfield 40, 3, (1, 9), .null), (.iload_n 1, 1, (0, 0), .null), (.bipush 6, 2, (0, 0), .int 6), (.idiv, 1, (0, 0), .null), (.iaload, 1, (0, 0), .null), (.aload_n 0, 1, (0, 0), .null), (.getfield 47, 3, (1, 11), .null), (.iload_n 1, 1, (0, 0), .null), (.bipush 6, 2, (0, 0), .int 6), (.irem, 1, (0, 0), .null), (.iaload, 1, (0, 0), .null), (.aload_n 0, 1, (0, 0), .null), (.getfield 44, 3, (1, 10), .null), (.iload_n 1, 1, (0, 0), .null), (.bipush 6, 2, (0, 0), .int 6), (.irem, 1, (0, 0), .null), (.iaload, 1, (0, 0), .null)] (G := ¬ (6 : Int32) = 0 ∧ vp_in (a1 / 6) 3 ∧ ¬ (6 : Int32) = 0 ∧ vp_in (irm a1 6) 6 ∧ ¬ (6 : Int32) = 0 ∧ vp_in (irm a1 6) 6 ∧ True) (c' := (37, [some (.ref 7), some (.int a1)], [.int (M 9 (Int32.toNatClampNeg (irm a1 6))), .int (M 10 (Int32.toNatClampNeg (irm a1 6))), .int (M 8 (Int32.toNatClampNeg (a1 / 6)))], M)) (by decide +kernel) rfl ⟨(by decide), h.1, (by decide), h.2.1, (by decide), h.2.2.1, trivial⟩ ?_
      replace h := h.2.2.2
      refine WP.call (.invokestatic 80, 3, (57, 3), .null) (by decide +kernel) rfl (sp_Bike_turnsBy (d := d + 2) h (fun r3 h => ?_))
      show WP (Ct (d + 3)) 56 Post (40, [some (.ref 7), some (.int a1)], [.int r3], M)
      exact WP.ret (.ireturn, 1, (0, 0), .null) (rk := 1) (by decide +kernel) (by decide +kernel) rfl trivial (hΦ _ h)
    · replace h := h.1 (Classical.not_not.mp c2)
      refine WP.blk [(.iconst 0, 1, (0, 0), .int 0)] (G := True) (c' := (9, [some (.ref 7), some (.int a1)], [.int 0], M)) (by decide +kernel) rfl trivial ?_
      exact WP.ret (.ireturn, 1, (0, 0), .null) (rk := 1) (by decide +kernel) (by decide +kernel) rfl trivial (hΦ _ h)
  · refine Ct.go (n := 2) (E := [some (.ref 13), some (.int a1)]) (by decide +kernel) (by simp [Value.category]) rfl ?_
    refine WP.blk [(.aload_n 0, 1, (0, 0), .null), (.iload_n 1, 1, (0, 0), .null)] (G := True) (c' := (2, [some (.ref 13), some (.int a1)], [.int a1, .ref 13], M)) (by decide +kernel) rfl trivial ?_
    refine WP.call (.invokevirtual 73, 3, (48, 2), .retAddr 1) (by decide +kernel) rfl (sp_Bike_hasGear (d := d + 0) (by decide) h (fun r1 h => ?_))
    show WP (Ct (d + 3)) 56 Post (5, [some (.ref 13), some (.int a1)], [.int r1], M)
    refine WP.br (.ifCond .ne 5, 3, (10, 0), .null) (by decide +kernel) rfl (fun c2 => ?_) (fun c2 => ?_)
    · replace h := h.2 c2
      refine WP.blk [(.aload_n 0, 1, (0, 0), .null), (.getfield 40, 3, (1, 9), .null), (.iload_n 1, 1, (0, 0), .null), (.bipush 6, 2, (0, 0), .int 6), (.idiv, 1, (0, 0), .null), (.iaload, 1, (0, 0), .null), (.aload_n 0, 1, (0, 0), .null), (.getfield 47, 3, (1, 11), .null), (.iload_n 1, 1, (0, 0), .null), (.bipush 6, 2, (0, 0), .int 6), (.irem, 1, (0, 0), .null), (.iaload, 1, (0, 0), .null), (.aload_n 0, 1, (0, 0), .null), (.getfield 44, 3, (1, 10), .null), (.iload_n 1, 1, (0, 0), .null), (.bipush 6, 2, (0, 0), .int 6), (.irem, 1, (0, 0), .null), (.iaload, 1, (0, 0), .null)] (G := ¬ (6 : Int32) = 0 ∧ vp_in (a1 / 6) 3 ∧ ¬ (6 : Int32) = 0 ∧ vp_in (irm a1 6) 6 ∧ ¬ (6 : Int32) = 0 ∧ vp_in (irm a1 6) 6 ∧ True) (c' := (37, [some (.ref 13), some (.int a1)], [.int (M 15 (Int32.toNatClampNeg (irm a1 6))), .int (M 16 (Int32.toNatClampNeg (irm a1 6))), .int (M 14 (Int32.toNatClampNeg (a1 / 6)))], M)) (by decide +kernel) rfl ⟨(by decide), h.1, (by decide), h.2.1, (by decide), h.2.2.1, trivial⟩ ?_
      replace h := h.2.2.2
      refine WP.call (.invokestatic 80, 3, (57, 3), .null) (by decide +kernel) rfl (sp_Bike_turnsBy (d := d + 2) h (fun r3 h => ?_))
      show WP (Ct (d + 3)) 56 Post (40, [some (.ref 13), some (.int a1)], [.int r3], M)
      exact WP.ret (.ireturn, 1, (0, 0), .null) (rk := 1) (by decide +kernel) (by decide +kernel) rfl trivial (hΦ _ h)
    · replace h := h.1 (Classical.not_not.mp c2)
      refine WP.blk [(.iconst 0, 1, (0, 0), .int 0)] (G := True) (c' := (9, [some (.ref 13), some (.int a1)], [.int 0], M)) (by decide +kernel) rfl trivial ?_
      exact WP.ret (.ireturn, 1, (0, 0), .null) (rk := 1) (by decide +kernel) (by decide +kernel) rfl trivial (hΦ _ h)
/-- GearRoad$Bike.turn(I)V -/
def S_Bike_turn (k : Nat) (M : Mm) (a1 : Int32) (Φ : Mm → Prop) : Prop := S_Math_min M 99999 ((M k 8) + a1) (fun r1 => (∀ M2, M2 = mu M k 8 r1 → Φ M2))
set_option maxRecDepth 100000 in
set_option maxHeartbeats 4000000 in
theorem sp_Bike_turn {d : Nat} {Post : Option Value → Mm → Prop} {k : Nat} {M : Mm} {a1 : Int32} {Φ : Mm → Prop} (hk : k = 7 ∨ k = 13) (h : S_Bike_turn k M a1 Φ) (hΦ : ∀ M1, Φ M1 → Post none M1) : Ct (d + 2) 58 [.ref k, .int a1] M Post := by
  rcases hk with rfl | rfl
  · refine Ct.go (n := 2) (E := [some (.ref 7), some (.int a1)]) (by decide +kernel) (by simp [Value.category]) rfl ?_
    refine WP.blk [(.aload_n 0, 1, (0, 0), .null), (.ldc 121, 2, (0, 0), .int (99999)), (.aload_n 0, 1, (0, 0), .null), (.getfield 37, 3, (1, 8), .null), (.iload_n 1, 1, (0, 0), .null), (.iadd, 1, (0, 0), .null)] (G := True) (c' := (9, [some (.ref 7), some (.int a1)], [.int ((M 7 8) + a1), .int 99999, .ref 7], M)) (by decide +kernel) rfl trivial ?_
    refine WP.call (.invokestatic 99, 3, (54, 2), .null) (by decide +kernel) rfl (sp_Math_min (d := d + 0) h (fun r1 h => ?_))
    show WP (Ct (d + 1)) 58 Post (12, [some (.ref 7), some (.int a1)], [.int r1, .ref 7], M)
    refine WP.blk [(.putfield 37, 3, (1, 8), .null)] (G := True) (c' := (15, [some (.ref 7), some (.int a1)], [], (mu M 7 8 r1))) (by decide +kernel) rfl trivial ?_
    replace h := h (mu M 7 8 r1) rfl
    generalize (mu M 7 8 r1) = M2 at h ⊢
    exact WP.ret (.return_, 1, (0, 0), .null) (rk := 0) (by decide +kernel) (by decide +kernel) rfl trivial (hΦ _ h)
  · refine Ct.go (n := 2) (E := [some (.ref 13), some (.int a1)]) (by decide +kernel) (by simp [Value.category]) rfl ?_
    refine WP.blk [(.aload_n 0, 1, (0, 0), .null), (.ldc 121, 2, (0, 0), .int (99999)), (.aload_n 0, 1, (0, 0), .null), (.getfield 37, 3, (1, 8), .null), (.iload_n 1, 1, (0, 0), .null), (.iadd, 1, (0, 0), .null)] (G := True) (c' := (9, [some (.ref 13), some (.int a1)], [.int ((M 13 8) + a1), .int 99999, .ref 13], M)) (by decide +kernel) rfl trivial ?_
    refine WP.call (.invokestatic 99, 3, (54, 2), .null) (by decide +kernel) rfl (sp_Math_min (d := d + 0) h (fun r1 h => ?_))
    show WP (Ct (d + 1)) 58 Post (12, [some (.ref 13), some (.int a1)], [.int r1, .ref 13], M)
    refine WP.blk [(.putfield 37, 3, (1, 8), .null)] (G := True) (c' := (15, [some (.ref 13), some (.int a1)], [], (mu M 13 8 r1))) (by decide +kernel) rfl trivial ?_
    replace h := h (mu M 13 8 r1) rfl
    generalize (mu M 13 8 r1) = M2 at h ⊢
    exact WP.ret (.return_, 1, (0, 0), .null) (rk := 0) (by decide +kernel) (by decide +kernel) rfl trivial (hΦ _ h)
/-- GearRoad$Bike.turnOnCog(I)V -/
def S_Bike_turnOnCog (k : Nat) (M : Mm) (a1 : Int32) (Φ : Mm → Prop) : Prop := vp_in (M k 6) 6 ∧ S_Math_min M 99999 ((M (k + 4) (Int32.toNatClampNeg (M k 6))) + a1) (fun r1 => vp_in (M k 6) 6 ∧ (∀ M2, M2 = mu M (k + 4) (Int32.toNatClampNeg (M k 6)) r1 → Φ M2))
set_option maxRecDepth 100000 in
set_option maxHeartbeats 4000000 in
theorem sp_Bike_turnOnCog {d : Nat} {Post : Option Value → Mm → Prop} {k : Nat} {M : Mm} {a1 : Int32} {Φ : Mm → Prop} (hk : k = 7 ∨ k = 13) (h : S_Bike_turnOnCog k M a1 Φ) (hΦ : ∀ M1, Φ M1 → Post none M1) : Ct (d + 2) 59 [.ref k, .int a1] M Post := by
  rcases hk with rfl | rfl
  · refine Ct.go (n := 2) (E := [some (.ref 7), some (.int a1)]) (by decide +kernel) (by simp [Value.category]) rfl ?_
    refine WP.blk [(.aload_n 0, 1, (0, 0), .null), (.getfield 50, 3, (1, 12), .null), (.aload_n 0, 1, (0, 0), .null), (.getfield 31, 3, (1, 6), .null), (.ldc 121, 2, (0, 0), .int (99999)), (.aload_n 0, 1, (0, 0), .null), (.getfield 50, 3, (1, 12), .null), (.aload_n 0, 1, (0, 0), .null), (.getfield 31, 3, (1, 6), .null), (.iaload, 1, (0, 0), .null), (.iload_n 1, 1, (0, 0), .null), (.iadd, 1, (0, 0), .null)] (G := vp_in (M 7 6) 6 ∧ True) (c' := (21, [some (.ref 7), some (.int a1)], [.int ((M 11 (Int32.toNatClampNeg (M 7 6))) + a1), .int 99999, .int (M 7 6), .ref 11], M)) (by decide +kernel) rfl ⟨h.1, trivial⟩ ?_
    replace h := h.2
    refine WP.call (.invokestatic 99, 3, (54, 2), .null) (by decide +kernel) rfl (sp_Math_min (d := d + 0) h (fun r1 h => ?_))
    show WP (Ct (d + 1)) 59 Post (24, [some (.ref 7), some (.int a1)], [.int r1, .int (M 7 6), .ref 11], M)
    refine WP.blk [(.iastore, 1, (0, 0), .null)] (G := vp_in (M 7 6) 6 ∧ True) (c' := (25, [some (.ref 7), some (.int a1)], [], (mu M 11 (Int32.toNatClampNeg (M 7 6)) r1))) (by decide +kernel) rfl ⟨h.1, trivial⟩ ?_
    replace h := h.2
    replace h := h (mu M 11 (Int32.toNatClampNeg (M 7 6)) r1) rfl
    generalize (mu M 11 (Int32.toNatClampNeg (M 7 6)) r1) = M2 at h ⊢
    exact WP.ret (.return_, 1, (0, 0), .null) (rk := 0) (by decide +kernel) (by decide +kernel) rfl trivial (hΦ _ h)
  · refine Ct.go (n := 2) (E := [some (.ref 13), some (.int a1)]) (by decide +kernel) (by simp [Value.category]) rfl ?_
    refine WP.blk [(.aload_n 0, 1, (0, 0), .null), (.getfield 50, 3, (1, 12), .null), (.aload_n 0, 1, (0, 0), .null), (.getfield 31, 3, (1, 6), .null), (.ldc 121, 2, (0, 0), .int (99999)), (.aload_n 0, 1, (0, 0), .null), (.getfield 50, 3, (1, 12), .null), (.aload_n 0, 1, (0, 0), .null), (.getfield 31, 3, (1, 6), .null), (.iaload, 1, (0, 0), .null), (.iload_n 1, 1, (0, 0), .null), (.iadd, 1, (0, 0), .null)] (G := vp_in (M 13 6) 6 ∧ True) (c' := (21, [some (.ref 13), some (.int a1)], [.int ((M 17 (Int32.toNatClampNeg (M 13 6))) + a1), .int 99999, .int (M 13 6), .ref 17], M)) (by decide +kernel) rfl ⟨h.1, trivial⟩ ?_
    replace h := h.2
    refine WP.call (.invokestatic 99, 3, (54, 2), .null) (by decide +kernel) rfl (sp_Math_min (d := d + 0) h (fun r1 h => ?_))
    show WP (Ct (d + 1)) 59 Post (24, [some (.ref 13), some (.int a1)], [.int r1, .int (M 13 6), .ref 17], M)
    refine WP.blk [(.iastore, 1, (0, 0), .null)] (G := vp_in (M 13 6) 6 ∧ True) (c' := (25, [some (.ref 13), some (.int a1)], [], (mu M 17 (Int32.toNatClampNeg (M 13 6)) r1))) (by decide +kernel) rfl ⟨h.1, trivial⟩ ?_
    replace h := h.2
    replace h := h (mu M 17 (Int32.toNatClampNeg (M 13 6)) r1) rfl
    generalize (mu M 17 (Int32.toNatClampNeg (M 13 6)) r1) = M2 at h ⊢
    exact WP.ret (.return_, 1, (0, 0), .null) (rk := 0) (by decide +kernel) (by decide +kernel) rfl trivial (hΦ _ h)
/-- GearRoad$Bike.rideOn()I -/
def S_Bike_rideOn (k : Nat) (M : Mm) (Φ : Int32 → Mm → Prop) : Prop := S_Bike_gear k M (fun r1 => S_Bike_turnsOf k M r1 (fun r2 => S_Bike_turn k M r2 (fun M3 => S_Bike_turnOnCog k M3 r2 (fun M4 => (∀ M5, M5 = mu M4 k 7 ((M4 k 7) + 1) → Φ r2 M5)))))
set_option maxRecDepth 100000 in
set_option maxHeartbeats 4000000 in
theorem sp_Bike_rideOn {d : Nat} {Post : Option Value → Mm → Prop} {k : Nat} {M : Mm} {Φ : Int32 → Mm → Prop} (hk : k = 7 ∨ k = 13) (h : S_Bike_rideOn k M Φ) (hΦ : ∀ r M1, Φ r M1 → Post (some (.int r)) M1) : Ct (d + 5) 55 [.ref k] M Post := by
  rcases hk with rfl | rfl
  · refine Ct.go (n := 2) (E := [some (.ref 7), none]) (by decide +kernel) (by simp [Value.category]) rfl ?_
    refine WP.blk [(.aload_n 0, 1, (0, 0), .null), (.aload_n 0, 1, (0, 0), .null)] (G := True) (c' := (2, [some (.ref 7), none], [.ref 7, .ref 7], M)) (by decide +kernel) rfl trivial ?_
    refine WP.call (.invokevirtual 95, 3, (46, 1), .retAddr 1) (by decide +kernel) rfl (sp_Bike_gear (d := d + 3) (by decide) h (fun r1 h => ?_))
    show WP (Ct (d + 4)) 55 Post (5, [some (.ref 7), none], [.int r1, .ref 7], M)
    refine WP.call (.invokevirtual 104, 3, (56, 2), .retAddr 1) (by decide +kernel) rfl (sp_Bike_turnsOf (d := d + 0) (by decide) h (fun r2 h => ?_))
    show WP (Ct (d + 4)) 55 Post (8, [some (.ref 7), none], [.int r2], M)
    refine WP.blk [(.istore_n 1, 1, (0, 0), .null), (.aload_n 0, 1, (0, 0), .null), (.iload_n 1, 1, (0, 0), .null)] (G := True) (c' := (11, [some (.ref 7), some (.int r2)], [.int r2, .ref 7], M)) (by decide +kernel) rfl trivial ?_
    refine WP.call (.invokevirtual 108, 3, (58, 2), .retAddr 1) (by decide +kernel) rfl (sp_Bike_turn (d := d + 2) (by decide) h (fun M3 h => ?_))
    show WP (Ct (d + 4)) 55 Post (14, [some (.ref 7), some (.int r2)], [], M3)
    refine WP.blk [(.aload_n 0, 1, (0, 0), .null), (.iload_n 1, 1, (0, 0), .null)] (G := True) (c' := (16, [some (.ref 7), some (.int r2)], [.int r2, .ref 7], M3)) (by decide +kernel) rfl trivial ?_
    refine WP.call (.invokevirtual 112, 3, (59, 2), .retAddr 1) (by decide +kernel) rfl (sp_Bike_turnOnCog (d := d + 2) (by decide) h (fun M4 h => ?_))
    show WP (Ct (d + 4)) 55 Post (19, [some (.ref 7), some (.int r2)], [], M4)
    refine WP.blk [(.aload_n 0, 1, (0, 0), .null), (.dup, 1, (0, 0), .null), (.getfield 34, 3, (1, 7), .null), (.iconst 1, 1, (0, 0), .int 1), (.iadd, 1, (0, 0), .null), (.putfield 34, 3, (1, 7), .null)] (G := True) (c' := (29, [some (.ref 7), some (.int r2)], [], (mu M4 7 7 ((M4 7 7) + 1)))) (by decide +kernel) rfl trivial ?_
    replace h := h (mu M4 7 7 ((M4 7 7) + 1)) rfl
    generalize (mu M4 7 7 ((M4 7 7) + 1)) = M5 at h ⊢
    refine WP.blk [(.iload_n 1, 1, (0, 0), .null)] (G := True) (c' := (30, [some (.ref 7), some (.int r2)], [.int r2], M5)) (by decide +kernel) rfl trivial ?_
    exact WP.ret (.ireturn, 1, (0, 0), .null) (rk := 1) (by decide +kernel) (by decide +kernel) rfl trivial (hΦ _ _ h)
  · refine Ct.go (n := 2) (E := [some (.ref 13), none]) (by decide +kernel) (by simp [Value.category]) rfl ?_
    refine WP.blk [(.aload_n 0, 1, (0, 0), .null), (.aload_n 0, 1, (0, 0), .null)] (G := True) (c' := (2, [some (.ref 13), none], [.ref 13, .ref 13], M)) (by decide +kernel) rfl trivial ?_
    refine WP.call (.invokevirtual 95, 3, (46, 1), .retAddr 1) (by decide +kernel) rfl (sp_Bike_gear (d := d + 3) (by decide) h (fun r1 h => ?_))
    show WP (Ct (d + 4)) 55 Post (5, [some (.ref 13), none], [.int r1, .ref 13], M)
    refine WP.call (.invokevirtual 104, 3, (56, 2), .retAddr 1) (by decide +kernel) rfl (sp_Bike_turnsOf (d := d + 0) (by decide) h (fun r2 h => ?_))
    show WP (Ct (d + 4)) 55 Post (8, [some (.ref 13), none], [.int r2], M)
    refine WP.blk [(.istore_n 1, 1, (0, 0), .null), (.aload_n 0, 1, (0, 0), .null), (.iload_n 1, 1, (0, 0), .null)] (G := True) (c' := (11, [some (.ref 13), some (.int r2)], [.int r2, .ref 13], M)) (by decide +kernel) rfl trivial ?_
    refine WP.call (.invokevirtual 108, 3, (58, 2), .retAddr 1) (by decide +kernel) rfl (sp_Bike_turn (d := d + 2) (by decide) h (fun M3 h => ?_))
    show WP (Ct (d + 4)) 55 Post (14, [some (.ref 13), some (.int r2)], [], M3)
    refine WP.blk [(.aload_n 0, 1, (0, 0), .null), (.iload_n 1, 1, (0, 0), .null)] (G := True) (c' := (16, [some (.ref 13), some (.int r2)], [.int r2, .ref 13], M3)) (by decide +kernel) rfl trivial ?_
    refine WP.call (.invokevirtual 112, 3, (59, 2), .retAddr 1) (by decide +kernel) rfl (sp_Bike_turnOnCog (d := d + 2) (by decide) h (fun M4 h => ?_))
    show WP (Ct (d + 4)) 55 Post (19, [some (.ref 13), some (.int r2)], [], M4)
    refine WP.blk [(.aload_n 0, 1, (0, 0), .null), (.dup, 1, (0, 0), .null), (.getfield 34, 3, (1, 7), .null), (.iconst 1, 1, (0, 0), .int 1), (.iadd, 1, (0, 0), .null), (.putfield 34, 3, (1, 7), .null)] (G := True) (c' := (29, [some (.ref 13), some (.int r2)], [], (mu M4 13 7 ((M4 13 7) + 1)))) (by decide +kernel) rfl trivial ?_
    replace h := h (mu M4 13 7 ((M4 13 7) + 1)) rfl
    generalize (mu M4 13 7 ((M4 13 7) + 1)) = M5 at h ⊢
    refine WP.blk [(.iload_n 1, 1, (0, 0), .null)] (G := True) (c' := (30, [some (.ref 13), some (.int r2)], [.int r2], M5)) (by decide +kernel) rfl trivial ?_
    exact WP.ret (.ireturn, 1, (0, 0), .null) (rk := 1) (by decide +kernel) (by decide +kernel) rfl trivial (hΦ _ _ h)
/-- GearRoad$Bike.mayLeave(II)Z -/
def D_Bike_mayLeave_16 (k : Nat) (M : Mm) (Φ : Int32 → Prop) : Unit → Prop
  | () => Φ 1
def S_Bike_mayLeave (k : Nat) (M : Mm) (a1 : Int32) (a2 : Int32) (Φ : Int32 → Prop) : Prop := vp_in a1 6 ∧ (((M (k + 2) (Int32.toNatClampNeg a1)) = 5 → (((irm a2 2) = 0 → D_Bike_mayLeave_16 k M Φ ()) ∧ (¬ ((irm a2 2) = 0) → Φ 0))) ∧ (¬ ((M (k + 2) (Int32.toNatClampNeg a1)) = 5) → D_Bike_mayLeave_16 k M Φ ()))
set_option maxRecDepth 100000 in
set_option maxHeartbeats 4000000 in
theorem L_Bike_mayLeave_16 {d : Nat} {Post : Option Value → Mm → Prop} {k : Nat} {M : Mm} {Φ : Int32 → Prop} (hk : k = 7 ∨ k = 13) (hΦ : ∀ r, Φ r → Post (some (.int r)) M) : D_Bike_mayLeave_16 k M Φ () → WP (Ct (d + 0)) 62 Post (16, [none, none, none], [], M) := by
  rcases hk with rfl | rfl
  · intro h
    replace h : Φ 1 := h
    refine WP.blk [(.iconst 1, 1, (0, 0), .int 1), (.goto 4, 3, (21, 0), .null)] (G := True) (c' := (21, [none, none, none], [.int 1], M)) (by decide +kernel) rfl trivial ?_
    exact WP.ret (.ireturn, 1, (0, 0), .null) (rk := 2) (by decide +kernel) (by decide +kernel) rfl (by decide) (hΦ _ h)
  · intro h
    replace h : Φ 1 := h
    refine WP.blk [(.iconst 1, 1, (0, 0), .int 1), (.goto 4, 3, (21, 0), .null)] (G := True) (c' := (21, [none, none, none], [.int 1], M)) (by decide +kernel) rfl trivial ?_
    exact WP.ret (.ireturn, 1, (0, 0), .null) (rk := 2) (by decide +kernel) (by decide +kernel) rfl (by decide) (hΦ _ h)
set_option maxRecDepth 100000 in
set_option maxHeartbeats 4000000 in
theorem sp_Bike_mayLeave {d : Nat} {Post : Option Value → Mm → Prop} {k : Nat} {M : Mm} {a1 : Int32} {a2 : Int32} {Φ : Int32 → Prop} (hk : k = 7 ∨ k = 13) (h : S_Bike_mayLeave k M a1 a2 Φ) (hΦ : ∀ r, Φ r → Post (some (.int r)) M) : Ct (d + 1) 62 [.ref k, .int a1, .int a2] M Post := by
  rcases hk with rfl | rfl
  · refine Ct.go (n := 3) (E := [some (.ref 7), some (.int a1), some (.int a2)]) (by decide +kernel) (by simp [Value.category]) rfl ?_
    refine WP.blk [(.aload_n 0, 1, (0, 0), .null), (.getfield 44, 3, (1, 10), .null), (.iload_n 1, 1, (0, 0), .null), (.iaload, 1, (0, 0), .null), (.iconst 5, 1, (0, 0), .int 5)] (G := vp_in a1 6 ∧ True) (c' := (7, [some (.ref 7), some (.int a1), some (.int a2)], [.int 5, .int (M 9 (Int32.toNatClampNeg a1))], M)) (by decide +kernel) rfl ⟨h.1, trivial⟩ ?_
    replace h := h.2
    refine WP.br (.if_icmp .ne 9, 3, (16, 0), .null) (by decide +kernel) rfl (fun c1 => ?_) (fun c1 => ?_)
    · replace h := h.2 c1
      refine WP.fgt [none, none, none] (by simp [fgt]) ?_
      exact L_Bike_mayLeave_16 (by decide) hΦ h
    · replace h := h.1 (Classical.not_not.mp c1)
      refine WP.blk [(.iload_n 2, 1, (0, 0), .null), (.iconst 2, 1, (0, 0), .int 2), (.irem, 1, (0, 0), .null)] (G := ¬ (2 : Int32) = 0 ∧ True) (c' := (13, [some (.ref 7), some (.int a1), some (.int a2)], [.int (irm a2 2)], M)) (by decide +kernel) rfl ⟨(by decide), trivial⟩ ?_
      refine WP.br (.ifCond .ne 7, 3, (20, 0), .null) (by decide +kernel) rfl (fun c2 => ?_) (fun c2 => ?_)
      · replace h := h.2 c2
        refine WP.blk [(.iconst 0, 1, (0, 0), .int 0)] (G := True) (c' := (21, [some (.ref 7), some (.int a1), some (.int a2)], [.int 0], M)) (by decide +kernel) rfl trivial ?_
        exact WP.ret (.ireturn, 1, (0, 0), .null) (rk := 2) (by decide +kernel) (by decide +kernel) rfl (by decide) (hΦ _ h)
      · replace h := h.1 (Classical.not_not.mp c2)
        refine WP.fgt [none, none, none] (by simp [fgt]) ?_
        exact L_Bike_mayLeave_16 (by decide) hΦ h
  · refine Ct.go (n := 3) (E := [some (.ref 13), some (.int a1), some (.int a2)]) (by decide +kernel) (by simp [Value.category]) rfl ?_
    refine WP.blk [(.aload_n 0, 1, (0, 0), .null), (.getfield 44, 3, (1, 10), .null), (.iload_n 1, 1, (0, 0), .null), (.iaload, 1, (0, 0), .null), (.iconst 5, 1, (0, 0), .int 5)] (G := vp_in a1 6 ∧ True) (c' := (7, [some (.ref 13), some (.int a1), some (.int a2)], [.int 5, .int (M 15 (Int32.toNatClampNeg a1))], M)) (by decide +kernel) rfl ⟨h.1, trivial⟩ ?_
    replace h := h.2
    refine WP.br (.if_icmp .ne 9, 3, (16, 0), .null) (by decide +kernel) rfl (fun c1 => ?_) (fun c1 => ?_)
    · replace h := h.2 c1
      refine WP.fgt [none, none, none] (by simp [fgt]) ?_
      exact L_Bike_mayLeave_16 (by decide) hΦ h
    · replace h := h.1 (Classical.not_not.mp c1)
      refine WP.blk [(.iload_n 2, 1, (0, 0), .null), (.iconst 2, 1, (0, 0), .int 2), (.irem, 1, (0, 0), .null)] (G := ¬ (2 : Int32) = 0 ∧ True) (c' := (13, [some (.ref 13), some (.int a1), some (.int a2)], [.int (irm a2 2)], M)) (by decide +kernel) rfl ⟨(by decide), trivial⟩ ?_
      refine WP.br (.ifCond .ne 7, 3, (20, 0), .null) (by decide +kernel) rfl (fun c2 => ?_) (fun c2 => ?_)
      · replace h := h.2 c2
        refine WP.blk [(.iconst 0, 1, (0, 0), .int 0)] (G := True) (c' := (21, [some (.ref 13), some (.int a1), some (.int a2)], [.int 0], M)) (by decide +kernel) rfl trivial ?_
        exact WP.ret (.ireturn, 1, (0, 0), .null) (rk := 2) (by decide +kernel) (by decide +kernel) rfl (by decide) (hΦ _ h)
      · replace h := h.1 (Classical.not_not.mp c2)
        refine WP.fgt [none, none, none] (by simp [fgt]) ?_
        exact L_Bike_mayLeave_16 (by decide) hΦ h
/-- GearRoad$Bike.canShift(I)Z -/
def S_Bike_canShift (k : Nat) (M : Mm) (a1 : Int32) (Φ : Int32 → Prop) : Prop := S_Bike_hasCog k M ((M k 6) + a1) (fun r1 => ((r1 = 0 → Φ 0) ∧ (¬ (r1 = 0) → S_Bike_mayLeave k M (M k 6) (M k 7) (fun r3 => ((r3 = 0 → Φ 0) ∧ (¬ (r3 = 0) → Φ 1))))))
set_option maxRecDepth 100000 in
set_option maxHeartbeats 4000000 in
theorem sp_Bike_canShift {d : Nat} {Post : Option Value → Mm → Prop} {k : Nat} {M : Mm} {a1 : Int32} {Φ : Int32 → Prop} (hk : k = 7 ∨ k = 13) (h : S_Bike_canShift k M a1 Φ) (hΦ : ∀ r, Φ r → Post (some (.int r)) M) : Ct (d + 3) 61 [.ref k, .int a1] M Post := by
  rcases hk with rfl | rfl
  · refine Ct.go (n := 2) (E := [some (.ref 7), some (.int a1)]) (by decide +kernel) (by simp [Value.category]) rfl ?_
    refine WP.blk [(.aload_n 0, 1, (0, 0), .null), (.aload_n 0, 1, (0, 0), .null), (.getfield 31, 3, (1, 6), .null), (.iload_n 1, 1, (0, 0), .null), (.iadd, 1, (0, 0), .null)] (G := True) (c' := (7, [some (.ref 7), some (.int a1)], [.int ((M 7 6) + a1), .ref 7], M)) (by decide +kernel) rfl trivial ?_
    refine WP.call (.invokevirtual 70, 3, (50, 2), .retAddr 1) (by decide +kernel) rfl (sp_Bike_hasCog (d := d + 0) (by decide) h (fun r1 h => ?_))
    show WP (Ct (d + 2)) 61 Post (10, [some (.ref 7), some (.int a1)], [.int r1], M)
    refine WP.br (.ifCond .eq 22, 3, (32, 0), .null) (by decide +kernel) rfl (fun c2 => ?_) (fun c2 => ?_)
    · replace h := h.1 c2
      refine WP.blk [(.iconst 0, 1, (0, 0), .int 0)] (G := True) (c' := (33, [some (.ref 7), some (.int a1)], [.int 0], M)) (by decide +kernel) rfl trivial ?_
      exact WP.ret (.ireturn, 1, (0, 0), .null) (rk := 2) (by decide +kernel) (by decide +kernel) rfl (by decide) (hΦ _ h)
    · replace h := h.2 c2
      refine WP.blk [(.aload_n 0, 1, (0, 0), .null), (.aload_n 0, 1, (0, 0), .null), (.getfield 31, 3, (1, 6), .null), (.aload_n 0, 1, (0, 0), .null), (.getfield 34, 3, (1, 7), .null)] (G := True) (c' := (22, [some (.ref 7), some (.int a1)], [.int (M 7 7), .int (M 7 6), .ref 7], M)) (by decide +kernel) rfl trivial ?_
      refine WP.call (.invokevirtual 115, 3, (62, 3), .retAddr 1) (by decide +kernel) rfl (sp_Bike_mayLeave (d := d + 1) (by decide) h (fun r3 h => ?_))
      show WP (Ct (d + 2)) 61 Post (25, [some (.ref 7), some (.int a1)], [.int r3], M)
      refine WP.br (.ifCond .eq 7, 3, (32, 0), .null) (by decide +kernel) rfl (fun c4 => ?_) (fun c4 => ?_)
      · replace h := h.1 c4
        refine WP.blk [(.iconst 0, 1, (0, 0), .int 0)] (G := True) (c' := (33, [some (.ref 7), some (.int a1)], [.int 0], M)) (by decide +kernel) rfl trivial ?_
        exact WP.ret (.ireturn, 1, (0, 0), .null) (rk := 2) (by decide +kernel) (by decide +kernel) rfl (by decide) (hΦ _ h)
      · replace h := h.2 c4
        refine WP.blk [(.iconst 1, 1, (0, 0), .int 1), (.goto 4, 3, (33, 0), .null)] (G := True) (c' := (33, [some (.ref 7), some (.int a1)], [.int 1], M)) (by decide +kernel) rfl trivial ?_
        exact WP.ret (.ireturn, 1, (0, 0), .null) (rk := 2) (by decide +kernel) (by decide +kernel) rfl (by decide) (hΦ _ h)
  · refine Ct.go (n := 2) (E := [some (.ref 13), some (.int a1)]) (by decide +kernel) (by simp [Value.category]) rfl ?_
    refine WP.blk [(.aload_n 0, 1, (0, 0), .null), (.aload_n 0, 1, (0, 0), .null), (.getfield 31, 3, (1, 6), .null), (.iload_n 1, 1, (0, 0), .null), (.iadd, 1, (0, 0), .null)] (G := True) (c' := (7, [some (.ref 13), some (.int a1)], [.int ((M 13 6) + a1), .ref 13], M)) (by decide +kernel) rfl trivial ?_
    refine WP.call (.invokevirtual 70, 3, (50, 2), .retAddr 1) (by decide +kernel) rfl (sp_Bike_hasCog (d := d + 0) (by decide) h (fun r1 h => ?_))
    show WP (Ct (d + 2)) 61 Post (10, [some (.ref 13), some (.int a1)], [.int r1], M)
    refine WP.br (.ifCond .eq 22, 3, (32, 0), .null) (by decide +kernel) rfl (fun c2 => ?_) (fun c2 => ?_)
    · replace h := h.1 c2
      refine WP.blk [(.iconst 0, 1, (0, 0), .int 0)] (G := True) (c' := (33, [some (.ref 13), some (.int a1)], [.int 0], M)) (by decide +kernel) rfl trivial ?_
      exact WP.ret (.ireturn, 1, (0, 0), .null) (rk := 2) (by decide +kernel) (by decide +kernel) rfl (by decide) (hΦ _ h)
    · replace h := h.2 c2
      refine WP.blk [(.aload_n 0, 1, (0, 0), .null), (.aload_n 0, 1, (0, 0), .null), (.getfield 31, 3, (1, 6), .null), (.aload_n 0, 1, (0, 0), .null), (.getfield 34, 3, (1, 7), .null)] (G := True) (c' := (22, [some (.ref 13), some (.int a1)], [.int (M 13 7), .int (M 13 6), .ref 13], M)) (by decide +kernel) rfl trivial ?_
      refine WP.call (.invokevirtual 115, 3, (62, 3), .retAddr 1) (by decide +kernel) rfl (sp_Bike_mayLeave (d := d + 1) (by decide) h (fun r3 h => ?_))
      show WP (Ct (d + 2)) 61 Post (25, [some (.ref 13), some (.int a1)], [.int r3], M)
      refine WP.br (.ifCond .eq 7, 3, (32, 0), .null) (by decide +kernel) rfl (fun c4 => ?_) (fun c4 => ?_)
      · replace h := h.1 c4
        refine WP.blk [(.iconst 0, 1, (0, 0), .int 0)] (G := True) (c' := (33, [some (.ref 13), some (.int a1)], [.int 0], M)) (by decide +kernel) rfl trivial ?_
        exact WP.ret (.ireturn, 1, (0, 0), .null) (rk := 2) (by decide +kernel) (by decide +kernel) rfl (by decide) (hΦ _ h)
      · replace h := h.2 c4
        refine WP.blk [(.iconst 1, 1, (0, 0), .int 1), (.goto 4, 3, (33, 0), .null)] (G := True) (c' := (33, [some (.ref 13), some (.int a1)], [.int 1], M)) (by decide +kernel) rfl trivial ?_
        exact WP.ret (.ireturn, 1, (0, 0), .null) (rk := 2) (by decide +kernel) (by decide +kernel) rfl (by decide) (hΦ _ h)
/-- GearRoad$Bike.turnsOnto(I)I -/
def S_Bike_turnsOnto (k : Nat) (M : Mm) (a1 : Int32) (Φ : Int32 → Prop) : Prop := vp_in a1 6 ∧ (((M (k + 2) (Int32.toNatClampNeg a1)) = 3 → Φ 1) ∧ (¬ ((M (k + 2) (Int32.toNatClampNeg a1)) = 3) → Φ 3))
set_option maxRecDepth 100000 in
set_option maxHeartbeats 4000000 in
theorem sp_Bike_turnsOnto {d : Nat} {Post : Option Value → Mm → Prop} {k : Nat} {M : Mm} {a1 : Int32} {Φ : Int32 → Prop} (hk : k = 7 ∨ k = 13) (h : S_Bike_turnsOnto k M a1 Φ) (hΦ : ∀ r, Φ r → Post (some (.int r)) M) : Ct (d + 1) 64 [.ref k, .int a1] M Post := by
  rcases hk with rfl | rfl
  · refine Ct.go (n := 2) (E := [some (.ref 7), some (.int a1)]) (by decide +kernel) (by simp [Value.category]) rfl ?_
    refine WP.blk [(.aload_n 0, 1, (0, 0), .null), (.getfield 44, 3, (1, 10), .null), (.iload_n 1, 1, (0, 0), .null), (.iaload, 1, (0, 0), .null), (.iconst 3, 1, (0, 0), .int 3)] (G := vp_in a1 6 ∧ True) (c' := (7, [some (.ref 7), some (.int a1)], [.int 3, .int (M 9 (Int32.toNatClampNeg a1))], M)) (by decide +kernel) rfl ⟨h.1, trivial⟩ ?_
    replace h := h.2
    refine WP.br (.if_icmp .ne 7, 3, (14, 0), .null) (by decide +kernel) rfl (fun c1 => ?_) (fun c1 => ?_)
    · replace h := h.2 c1
      refine WP.blk [(.iconst 3, 1, (0, 0), .int 3)] (G := True) (c' := (15, [some (.ref 7), some (.int a1)], [.int 3], M)) (by decide +kernel) rfl trivial ?_
      exact WP.ret (.ireturn, 1, (0, 0), .null) (rk := 1) (by decide +kernel) (by decide +kernel) rfl trivial (hΦ _ h)
    · replace h := h.1 (Classical.not_not.mp c1)
      refine WP.blk [(.iconst 1, 1, (0, 0), .int 1), (.goto 4, 3, (15, 0), .null)] (G := True) (c' := (15, [some (.ref 7), some (.int a1)], [.int 1], M)) (by decide +kernel) rfl trivial ?_
      exact WP.ret (.ireturn, 1, (0, 0), .null) (rk := 1) (by decide +kernel) (by decide +kernel) rfl trivial (hΦ _ h)
  · refine Ct.go (n := 2) (E := [some (.ref 13), some (.int a1)]) (by decide +kernel) (by simp [Value.category]) rfl ?_
    refine WP.blk [(.aload_n 0, 1, (0, 0), .null), (.getfield 44, 3, (1, 10), .null), (.iload_n 1, 1, (0, 0), .null), (.iaload, 1, (0, 0), .null), (.iconst 3, 1, (0, 0), .int 3)] (G := vp_in a1 6 ∧ True) (c' := (7, [some (.ref 13), some (.int a1)], [.int 3, .int (M 15 (Int32.toNatClampNeg a1))], M)) (by decide +kernel) rfl ⟨h.1, trivial⟩ ?_
    replace h := h.2
    refine WP.br (.if_icmp .ne 7, 3, (14, 0), .null) (by decide +kernel) rfl (fun c1 => ?_) (fun c1 => ?_)
    · replace h := h.2 c1
      refine WP.blk [(.iconst 3, 1, (0, 0), .int 3)] (G := True) (c' := (15, [some (.ref 13), some (.int a1)], [.int 3], M)) (by decide +kernel) rfl trivial ?_
      exact WP.ret (.ireturn, 1, (0, 0), .null) (rk := 1) (by decide +kernel) (by decide +kernel) rfl trivial (hΦ _ h)
    · replace h := h.1 (Classical.not_not.mp c1)
      refine WP.blk [(.iconst 1, 1, (0, 0), .int 1), (.goto 4, 3, (15, 0), .null)] (G := True) (c' := (15, [some (.ref 13), some (.int a1)], [.int 1], M)) (by decide +kernel) rfl trivial ?_
      exact WP.ret (.ireturn, 1, (0, 0), .null) (rk := 1) (by decide +kernel) (by decide +kernel) rfl trivial (hΦ _ h)
/-- GearRoad$Bike.shiftCog(I)V -/
def S_Bike_shiftCog (k : Nat) (M : Mm) (a1 : Int32) (Φ : Mm → Prop) : Prop := (∀ M1, M1 = mu M k 6 ((M k 6) + a1) → S_Bike_turnsOnto k M1 (M1 k 6) (fun r2 => S_Bike_turn k M1 r2 (fun M3 => S_Bike_turnsOnto k M3 (M3 k 6) (fun r4 => S_Bike_turnOnCog k M3 r4 (fun M5 => Φ M5)))))
set_option maxRecDepth 100000 in
set_option maxHeartbeats 4000000 in
theorem sp_Bike_shiftCog {d : Nat} {Post : Option Value → Mm → Prop} {k : Nat} {M : Mm} {a1 : Int32} {Φ : Mm → Prop} (hk : k = 7 ∨ k = 13) (h : S_Bike_shiftCog k M a1 Φ) (hΦ : ∀ M1, Φ M1 → Post none M1) : Ct (d + 3) 63 [.ref k, .int a1] M Post := by
  rcases hk with rfl | rfl
  · refine Ct.go (n := 2) (E := [some (.ref 7), some (.int a1)]) (by decide +kernel) (by simp [Value.category]) rfl ?_
    refine WP.blk [(.aload_n 0, 1, (0, 0), .null), (.dup, 1, (0, 0), .null), (.getfield 31, 3, (1, 6), .null), (.iload_n 1, 1, (0, 0), .null), (.iadd, 1, (0, 0), .null), (.putfield 31, 3, (1, 6), .null)] (G := True) (c' := (10, [some (.ref 7), some (.int a1)], [], (mu M 7 6 ((M 7 6) + a1)))) (by decide +kernel) rfl trivial ?_
    replace h := h (mu M 7 6 ((M 7 6) + a1)) rfl
    generalize (mu M 7 6 ((M 7 6) + a1)) = M1 at h ⊢
    refine WP.blk [(.aload_n 0, 1, (0, 0), .null), (.aload_n 0, 1, (0, 0), .null), (.aload_n 0, 1, (0, 0), .null), (.getfield 31, 3, (1, 6), .null)] (G := True) (c' := (16, [some (.ref 7), some (.int a1)], [.int (M1 7 6), .ref 7, .ref 7], M1)) (by decide +kernel) rfl trivial ?_
    refine WP.call (.invokevirtual 118, 3, (64, 2), .retAddr 1) (by decide +kernel) rfl (sp_Bike_turnsOnto (d := d + 1) (by decide) h (fun r2 h => ?_))
    show WP (Ct (d + 2)) 63 Post (19, [some (.ref 7), some (.int a1)], [.int r2, .ref 7], M1)
    refine WP.call (.invokevirtual 108, 3, (58, 2), .retAddr 1) (by decide +kernel) rfl (sp_Bike_turn (d := d + 0) (by decide) h (fun M3 h => ?_))
    show WP (Ct (d + 2)) 63 Post (22, [some (.ref 7), some (.int a1)], [], M3)
    refine WP.blk [(.aload_n 0, 1, (0, 0), .null), (.aload_n 0, 1, (0, 0), .null), (.aload_n 0, 1, (0, 0), .null), (.getfield 31, 3, (1, 6), .null)] (G := True) (c' := (28, [some (.ref 7), some (.int a1)], [.int (M3 7 6), .ref 7, .ref 7], M3)) (by decide +kernel) rfl trivial ?_
    refine WP.call (.invokevirtual 118, 3, (64, 2), .retAddr 1) (by decide +kernel) rfl (sp_Bike_turnsOnto (d := d + 1) (by decide) h (fun r4 h => ?_))
    show WP (Ct (d + 2)) 63 Post (31, [some (.ref 7), some (.int a1)], [.int r4, .ref 7], M3)
    refine WP.call (.invokevirtual 112, 3, (59, 2), .retAddr 1) (by decide +kernel) rfl (sp_Bike_turnOnCog (d := d + 0) (by decide) h (fun M5 h => ?_))
    show WP (Ct (d + 2)) 63 Post (34, [some (.ref 7), some (.int a1)], [], M5)
    exact WP.ret (.return_, 1, (0, 0), .null) (rk := 0) (by decide +kernel) (by decide +kernel) rfl trivial (hΦ _ h)
  · refine Ct.go (n := 2) (E := [some (.ref 13), some (.int a1)]) (by decide +kernel) (by simp [Value.category]) rfl ?_
    refine WP.blk [(.aload_n 0, 1, (0, 0), .null), (.dup, 1, (0, 0), .null), (.getfield 31, 3, (1, 6), .null), (.iload_n 1, 1, (0, 0), .null), (.iadd, 1, (0, 0), .null), (.putfield 31, 3, (1, 6), .null)] (G := True) (c' := (10, [some (.ref 13), some (.int a1)], [], (mu M 13 6 ((M 13 6) + a1)))) (by decide +kernel) rfl trivial ?_
    replace h := h (mu M 13 6 ((M 13 6) + a1)) rfl
    generalize (mu M 13 6 ((M 13 6) + a1)) = M1 at h ⊢
    refine WP.blk [(.aload_n 0, 1, (0, 0), .null), (.aload_n 0, 1, (0, 0), .null), (.aload_n 0, 1, (0, 0), .null), (.getfield 31, 3, (1, 6), .null)] (G := True) (c' := (16, [some (.ref 13), some (.int a1)], [.int (M1 13 6), .ref 13, .ref 13], M1)) (by decide +kernel) rfl trivial ?_
    refine WP.call (.invokevirtual 118, 3, (64, 2), .retAddr 1) (by decide +kernel) rfl (sp_Bike_turnsOnto (d := d + 1) (by decide) h (fun r2 h => ?_))
    show WP (Ct (d + 2)) 63 Post (19, [some (.ref 13), some (.int a1)], [.int r2, .ref 13], M1)
    refine WP.call (.invokevirtual 108, 3, (58, 2), .retAddr 1) (by decide +kernel) rfl (sp_Bike_turn (d := d + 0) (by decide) h (fun M3 h => ?_))
    show WP (Ct (d + 2)) 63 Post (22, [some (.ref 13), some (.int a1)], [], M3)
    refine WP.blk [(.aload_n 0, 1, (0, 0), .null), (.aload_n 0, 1, (0, 0), .null), (.aload_n 0, 1, (0, 0), .null), (.getfield 31, 3, (1, 6), .null)] (G := True) (c' := (28, [some (.ref 13), some (.int a1)], [.int (M3 13 6), .ref 13, .ref 13], M3)) (by decide +kernel) rfl trivial ?_
    refine WP.call (.invokevirtual 118, 3, (64, 2), .retAddr 1) (by decide +kernel) rfl (sp_Bike_turnsOnto (d := d + 1) (by decide) h (fun r4 h => ?_))
    show WP (Ct (d + 2)) 63 Post (31, [some (.ref 13), some (.int a1)], [.int r4, .ref 13], M3)
    refine WP.call (.invokevirtual 112, 3, (59, 2), .retAddr 1) (by decide +kernel) rfl (sp_Bike_turnOnCog (d := d + 0) (by decide) h (fun M5 h => ?_))
    show WP (Ct (d + 2)) 63 Post (34, [some (.ref 13), some (.int a1)], [], M5)
    exact WP.ret (.return_, 1, (0, 0), .null) (rk := 0) (by decide +kernel) (by decide +kernel) rfl trivial (hΦ _ h)
/-- GearRoad$Bike.shiftRing(I)V -/
def S_Bike_shiftRing (k : Nat) (M : Mm) (a1 : Int32) (Φ : Mm → Prop) : Prop := (∀ M1, M1 = mu M k 5 a1 → S_Bike_turn k M1 5 (fun M2 => Φ M2))
set_option maxRecDepth 100000 in
set_option maxHeartbeats 4000000 in
theorem sp_Bike_shiftRing {d : Nat} {Post : Option Value → Mm → Prop} {k : Nat} {M : Mm} {a1 : Int32} {Φ : Mm → Prop} (hk : k = 7 ∨ k = 13) (h : S_Bike_shiftRing k M a1 Φ) (hΦ : ∀ M1, Φ M1 → Post none M1) : Ct (d + 3) 66 [.ref k, .int a1] M Post := by
  rcases hk with rfl | rfl
  · refine Ct.go (n := 2) (E := [some (.ref 7), some (.int a1)]) (by decide +kernel) (by simp [Value.category]) rfl ?_
    refine WP.blk [(.aload_n 0, 1, (0, 0), .null), (.iload_n 1, 1, (0, 0), .null), (.putfield 28, 3, (1, 5), .null)] (G := True) (c' := (5, [some (.ref 7), some (.int a1)], [], (mu M 7 5 a1))) (by decide +kernel) rfl trivial ?_
    replace h := h (mu M 7 5 a1) rfl
    generalize (mu M 7 5 a1) = M1 at h ⊢
    refine WP.blk [(.aload_n 0, 1, (0, 0), .null), (.iconst 5, 1, (0, 0), .int 5)] (G := True) (c' := (7, [some (.ref 7), some (.int a1)], [.int 5, .ref 7], M1)) (by decide +kernel) rfl trivial ?_
    refine WP.call (.invokevirtual 108, 3, (58, 2), .retAddr 1) (by decide +kernel) rfl (sp_Bike_turn (d := d + 0) (by decide) h (fun M2 h => ?_))
    show WP (Ct (d + 2)) 66 Post (10, [some (.ref 7), some (.int a1)], [], M2)
    exact WP.ret (.return_, 1, (0, 0), .null) (rk := 0) (by decide +kernel) (by decide +kernel) rfl trivial (hΦ _ h)
  · refine Ct.go (n := 2) (E := [some (.ref 13), some (.int a1)]) (by decide +kernel) (by simp [Value.category]) rfl ?_
    refine WP.blk [(.aload_n 0, 1, (0, 0), .null), (.iload_n 1, 1, (0, 0), .null), (.putfield 28, 3, (1, 5), .null)] (G := True) (c' := (5, [some (.ref 13), some (.int a1)], [], (mu M 13 5 a1))) (by decide +kernel) rfl trivial ?_
    replace h := h (mu M 13 5 a1) rfl
    generalize (mu M 13 5 a1) = M1 at h ⊢
    refine WP.blk [(.aload_n 0, 1, (0, 0), .null), (.iconst 5, 1, (0, 0), .int 5)] (G := True) (c' := (7, [some (.ref 13), some (.int a1)], [.int 5, .ref 13], M1)) (by decide +kernel) rfl trivial ?_
    refine WP.call (.invokevirtual 108, 3, (58, 2), .retAddr 1) (by decide +kernel) rfl (sp_Bike_turn (d := d + 0) (by decide) h (fun M2 h => ?_))
    show WP (Ct (d + 2)) 66 Post (10, [some (.ref 13), some (.int a1)], [], M2)
    exact WP.ret (.return_, 1, (0, 0), .null) (rk := 0) (by decide +kernel) (by decide +kernel) rfl trivial (hΦ _ h)
/-- GearRoad$Bike.turnAbout()V -/
def D_Bike_turnAbout_9 (k : Nat) (Φ : Mm → Prop) (rec_9 : Int32 × Int32 × Mm → Prop) : Int32 × Int32 × Mm → Prop
  | (x1, x2, M) => ((x2 < x1 → (∀ M4, M4 = mu M k 7 ((M k 3) - (M k 7)) → Φ M4)) ∧ (¬ (x2 < x1) → vp_in x1 6 ∧ vp_in x2 6 ∧ vp_in x1 6 ∧ (∀ M5, M5 = mu M (k + 5) (Int32.toNatClampNeg x1) (9 - (M (k + 5) (Int32.toNatClampNeg x2))) → vp_in x2 6 ∧ (∀ M6, M6 = mu M5 (k + 5) (Int32.toNatClampNeg x2) (9 - (M (k + 5) (Int32.toNatClampNeg x1))) → rec_9 ((x1 + 1), (x2 + (-1)), M6)))))
def S_Bike_turnAbout (k : Nat) (M : Mm) (Φ : Mm → Prop) : Prop := ∃ n, lp (D_Bike_turnAbout_9 k Φ) n (0, ((M k 3) - 1), M)
set_option maxRecDepth 100000 in
set_option maxHeartbeats 4000000 in
theorem L_Bike_turnAbout_9 {d : Nat} {Post : Option Value → Mm → Prop} {k : Nat} {rec_9 : Int32 × Int32 × Mm → Prop} {Φ : Mm → Prop} (hk : k = 7 ∨ k = 13) (hΦ : ∀ M1, Φ M1 → Post none M1) (hrec_9 : ∀ (x1 : Int32) (x2 : Int32) (M : Mm), rec_9 (x1, x2, M) → WP (Ct (d + 0)) 68 Post (9, [some (.ref k), some (.int x1), some (.int x2), none], [], M)) : ∀ (x1 : Int32) (x2 : Int32) (M : Mm), D_Bike_turnAbout_9 k Φ rec_9 (x1, x2, M) → WP (Ct (d + 0)) 68 Post (9, [some (.ref k), some (.int x1), some (.int x2), none], [], M) := by
  rcases hk with rfl | rfl
  · intro x1 x2 M h
    replace h : ((x2 < x1 → (∀ M4, M4 = mu M 7 7 ((M 7 3) - (M 7 7)) → Φ M4)) ∧ (¬ (x2 < x1) → vp_in x1 6 ∧ vp_in x2 6 ∧ vp_in x1 6 ∧ (∀ M5, M5 = mu M 12 (Int32.toNatClampNeg x1) (9 - (M 12 (Int32.toNatClampNeg x2))) → vp_in x2 6 ∧ (∀ M6, M6 = mu M5 12 (Int32.toNatClampNeg x2) (9 - (M 12 (Int32.toNatClampNeg x1))) → rec_9 ((x1 + 1), (x2 + (-1)), M6))))) := h
    refine WP.blk [(.iload_n 1, 1, (0, 0), .null), (.iload_n 2, 1, (0, 0), .null)] (G := True) (c' := (11, [some (.ref 7), some (.int x1), some (.int x2), none], [.int x2, .int x1], M)) (by decide +kernel) rfl trivial ?_
    refine WP.br (.if_icmp .gt 44, 3, (55, 0), .null) (by decide +kernel) rfl (fun c3 => ?_) (fun c3 => ?_)
    · replace h := h.1 c3
      refine WP.blk [(.aload_n 0, 1, (0, 0), .null), (.aload_n 0, 1, (0, 0), .null), (.getfield 22, 3, (1, 3), .null), (.aload_n 0, 1, (0, 0), .null), (.getfield 34, 3, (1, 7), .null), (.isub, 1, (0, 0), .null), (.putfield 34, 3, (1, 7), .null)] (G := True) (c' := (68, [some (.ref 7), some (.int x1), some (.int x2), none], [], (mu M 7 7 ((M 7 3) - (M 7 7))))) (by decide +kernel) rfl trivial ?_
      replace h := h (mu M 7 7 ((M 7 3) - (M 7 7))) rfl
      generalize (mu M 7 7 ((M 7 3) - (M 7 7))) = M4 at h ⊢
      exact WP.ret (.return_, 1, (0, 0), .null) (rk := 0) (by decide +kernel) (by decide +kernel) rfl trivial (hΦ _ h)
    · replace h := h.2 c3
      refine WP.blk [(.aload_n 0, 1, (0, 0), .null), (.getfield 53, 3, (1, 13), .null), (.iload_n 1, 1, (0, 0), .null), (.iaload, 1, (0, 0), .null), (.istore_n 3, 1, (0, 0), .null), (.aload_n 0, 1, (0, 0), .null), (.getfield 53, 3, (1, 13), .null), (.iload_n 1, 1, (0, 0), .null), (.bipush 9, 2, (0, 0), .int 9), (.aload_n 0, 1, (0, 0), .null), (.getfield 53, 3, (1, 13), .null), (.iload_n 2, 1, (0, 0), .null), (.iaload, 1, (0, 0), .null), (.isub, 1, (0, 0), .null), (.iastore, 1, (0, 0), .null)] (G := vp_in x1 6 ∧ vp_in x2 6 ∧ vp_in x1 6 ∧ True) (c' := (36, [some (.ref 7), some (.int x1), some (.int x2), some (.int (M 12 (Int32.toNatClampNeg x1)))], [], (mu M 12 (Int32.toNatClampNeg x1) (9 - (M 12 (Int32.toNatClampNeg x2)))))) (by decide +kernel) rfl ⟨h.1, h.2.1, h.2.2.1, trivial⟩ ?_
      replace h := h.2.2.2
      replace h := h (mu M 12 (Int32.toNatClampNeg x1) (9 - (M 12 (Int32.toNatClampNeg x2)))) rfl
      generalize (mu M 12 (Int32.toNatClampNeg x1) (9 - (M 12 (Int32.toNatClampNeg x2)))) = M5 at h ⊢
      refine WP.blk [(.aload_n 0, 1, (0, 0), .null), (.getfield 53, 3, (1, 13), .null), (.iload_n 2, 1, (0, 0), .null), (.bipush 9, 2, (0, 0), .int 9), (.iload_n 3, 1, (0, 0), .null), (.isub, 1, (0, 0), .null), (.iastore, 1, (0, 0), .null)] (G := vp_in x2 6 ∧ True) (c' := (46, [some (.ref 7), some (.int x1), some (.int x2), some (.int (M 12 (Int32.toNatClampNeg x1)))], [], (mu M5 12 (Int32.toNatClampNeg x2) (9 - (M 12 (Int32.toNatClampNeg x1)))))) (by decide +kernel) rfl ⟨h.1, trivial⟩ ?_
      replace h := h.2
      replace h := h (mu M5 12 (Int32.toNatClampNeg x2) (9 - (M 12 (Int32.toNatClampNeg x1)))) rfl
      generalize (mu M5 12 (Int32.toNatClampNeg x2) (9 - (M 12 (Int32.toNatClampNeg x1)))) = M6 at h ⊢
      refine WP.blk [(.iinc 1 1, 3, (0, 0), .int 1), (.iinc 2 (-1), 3, (0, 0), .int (-1)), (.goto (-43), 3, (9, 0), .null)] (G := True) (c' := (9, [some (.ref 7), some (.int (x1 + 1)), some (.int (x2 + (-1))), some (.int (M 12 (Int32.toNatClampNeg x1)))], [], M6)) (by decide +kernel) rfl trivial ?_
      refine WP.fgt [some (.ref 7), some (.int (x1 + 1)), some (.int (x2 + (-1))), none] (by simp [fgt]) ?_
      exact hrec_9 _ _ _ h
  · intro x1 x2 M h
    replace h : ((x2 < x1 → (∀ M4, M4 = mu M 13 7 ((M 13 3) - (M 13 7)) → Φ M4)) ∧ (¬ (x2 < x1) → vp_in x1 6 ∧ vp_in x2 6 ∧ vp_in x1 6 ∧ (∀ M5, M5 = mu M 18 (Int32.toNatClampNeg x1) (9 - (M 18 (Int32.toNatClampNeg x2))) → vp_in x2 6 ∧ (∀ M6, M6 = mu M5 18 (Int32.toNatClampNeg x2) (9 - (M 18 (Int32.toNatClampNeg x1))) → rec_9 ((x1 + 1), (x2 + (-1)), M6))))) := h
    refine WP.blk [(.iload_n 1, 1, (0, 0), .null), (.iload_n 2, 1, (0, 0), .null)] (G := True) (c' := (11, [some (.ref 13), some (.int x1), some (.int x2), none], [.int x2, .int x1], M)) (by decide +kernel) rfl trivial ?_
    refine WP.br (.if_icmp .gt 44, 3, (55, 0), .null) (by decide +kernel) rfl (fun c3 => ?_) (fun c3 => ?_)
    · replace h := h.1 c3
      refine WP.blk [(.aload_n 0, 1, (0, 0), .null), (.aload_n 0, 1, (0, 0), .null), (.getfield 22, 3, (1, 3), .null), (.aload_n 0, 1, (0, 0), .null), (.getfield 34, 3, (1, 7), .null), (.isub, 1, (0, 0), .null), (.putfield 34, 3, (1, 7), .null)] (G := True) (c' := (68, [some (.ref 13), some (.int x1), some (.int x2), none], [], (mu M 13 7 ((M 13 3) - (M 13 7))))) (by decide +kernel) rfl trivial ?_
      replace h := h (mu M 13 7 ((M 13 3) - (M 13 7))) rfl
      generalize (mu M 13 7 ((M 13 3) - (M 13 7))) = M4 at h ⊢
      exact WP.ret (.return_, 1, (0, 0), .null) (rk := 0) (by decide +kernel) (by decide +kernel) rfl trivial (hΦ _ h)
    · replace h := h.2 c3
      refine WP.blk [(.aload_n 0, 1, (0, 0), .null), (.getfield 53, 3, (1, 13), .null), (.iload_n 1, 1, (0, 0), .null), (.iaload, 1, (0, 0), .null), (.istore_n 3, 1, (0, 0), .null), (.aload_n 0, 1, (0, 0), .null), (.getfield 53, 3, (1, 13), .null), (.iload_n 1, 1, (0, 0), .null), (.bipush 9, 2, (0, 0), .int 9), (.aload_n 0, 1, (0, 0), .null), (.getfield 53, 3, (1, 13), .null), (.iload_n 2, 1, (0, 0), .null), (.iaload, 1, (0, 0), .null), (.isub, 1, (0, 0), .null), (.iastore, 1, (0, 0), .null)] (G := vp_in x1 6 ∧ vp_in x2 6 ∧ vp_in x1 6 ∧ True) (c' := (36, [some (.ref 13), some (.int x1), some (.int x2), some (.int (M 18 (Int32.toNatClampNeg x1)))], [], (mu M 18 (Int32.toNatClampNeg x1) (9 - (M 18 (Int32.toNatClampNeg x2)))))) (by decide +kernel) rfl ⟨h.1, h.2.1, h.2.2.1, trivial⟩ ?_
      replace h := h.2.2.2
      replace h := h (mu M 18 (Int32.toNatClampNeg x1) (9 - (M 18 (Int32.toNatClampNeg x2)))) rfl
      generalize (mu M 18 (Int32.toNatClampNeg x1) (9 - (M 18 (Int32.toNatClampNeg x2)))) = M5 at h ⊢
      refine WP.blk [(.aload_n 0, 1, (0, 0), .null), (.getfield 53, 3, (1, 13), .null), (.iload_n 2, 1, (0, 0), .null), (.bipush 9, 2, (0, 0), .int 9), (.iload_n 3, 1, (0, 0), .null), (.isub, 1, (0, 0), .null), (.iastore, 1, (0, 0), .null)] (G := vp_in x2 6 ∧ True) (c' := (46, [some (.ref 13), some (.int x1), some (.int x2), some (.int (M 18 (Int32.toNatClampNeg x1)))], [], (mu M5 18 (Int32.toNatClampNeg x2) (9 - (M 18 (Int32.toNatClampNeg x1)))))) (by decide +kernel) rfl ⟨h.1, trivial⟩ ?_
      replace h := h.2
      replace h := h (mu M5 18 (Int32.toNatClampNeg x2) (9 - (M 18 (Int32.toNatClampNeg x1)))) rfl
      generalize (mu M5 18 (Int32.toNatClampNeg x2) (9 - (M 18 (Int32.toNatClampNeg x1)))) = M6 at h ⊢
      refine WP.blk [(.iinc 1 1, 3, (0, 0), .int 1), (.iinc 2 (-1), 3, (0, 0), .int (-1)), (.goto (-43), 3, (9, 0), .null)] (G := True) (c' := (9, [some (.ref 13), some (.int (x1 + 1)), some (.int (x2 + (-1))), some (.int (M 18 (Int32.toNatClampNeg x1)))], [], M6)) (by decide +kernel) rfl trivial ?_
      refine WP.fgt [some (.ref 13), some (.int (x1 + 1)), some (.int (x2 + (-1))), none] (by simp [fgt]) ?_
      exact hrec_9 _ _ _ h
theorem P_Bike_turnAbout_9 {d : Nat} {Post : Option Value → Mm → Prop} {k : Nat} {Φ : Mm → Prop} (hk : k = 7 ∨ k = 13) (hΦ : ∀ M1, Φ M1 → Post none M1) : ∀ (n : Nat) (x1 : Int32) (x2 : Int32) (M : Mm), lp (D_Bike_turnAbout_9 k Φ) n (x1, x2, M) → WP (Ct (d + 0)) 68 Post (9, [some (.ref k), some (.int x1), some (.int x2), none], [], M)
  | 0, x1, x2, M, h => absurd h (by simp [lp])
  | n + 1, x1, x2, M, h => L_Bike_turnAbout_9 hk hΦ (P_Bike_turnAbout_9 hk hΦ n) x1 x2 M h
set_option maxRecDepth 100000 in
set_option maxHeartbeats 4000000 in
theorem sp_Bike_turnAbout {d : Nat} {Post : Option Value → Mm → Prop} {k : Nat} {M : Mm} {Φ : Mm → Prop} (hk : k = 7 ∨ k = 13) (h : S_Bike_turnAbout k M Φ) (hΦ : ∀ M1, Φ M1 → Post none M1) : Ct (d + 1) 68 [.ref k] M Post := by
  rcases hk with rfl | rfl
  · refine Ct.go (n := 4) (E := [some (.ref 7), none, none, none]) (by decide +kernel) (by simp [Value.category]) rfl ?_
    refine WP.blk [(.iconst 0, 1, (0, 0), .int 0), (.istore_n 1, 1, (0, 0), .null), (.aload_n 0, 1, (0, 0), .null), (.getfield 22, 3, (1, 3), .null), (.iconst 1, 1, (0, 0), .int 1), (.isub, 1, (0, 0), .null), (.istore_n 2, 1, (0, 0), .null)] (G := True) (c' := (9, [some (.ref 7), some (.int 0), some (.int ((M 7 3) - 1)), none], [], M)) (by decide +kernel) rfl trivial ?_
    obtain ⟨n, h⟩ := h
    exact P_Bike_turnAbout_9 (by decide) hΦ n _ _ _ h
  · refine Ct.go (n := 4) (E := [some (.ref 13), none, none, none]) (by decide +kernel) (by simp [Value.category]) rfl ?_
    refine WP.blk [(.iconst 0, 1, (0, 0), .int 0), (.istore_n 1, 1, (0, 0), .null), (.aload_n 0, 1, (0, 0), .null), (.getfield 22, 3, (1, 3), .null), (.iconst 1, 1, (0, 0), .int 1), (.isub, 1, (0, 0), .null), (.istore_n 2, 1, (0, 0), .null)] (G := True) (c' := (9, [some (.ref 13), some (.int 0), some (.int ((M 13 3) - 1)), none], [], M)) (by decide +kernel) rfl trivial ?_
    obtain ⟨n, h⟩ := h
    exact P_Bike_turnAbout_9 (by decide) hΦ n _ _ _ h
/-- java/lang/Integer.compare(II)I -/
def S_Int_compare (M : Mm) (a1 : Int32) (a2 : Int32) (Φ : Int32 → Prop) : Prop := ((a2 ≤ a1 → ((a1 = a2 → Φ 0) ∧ (¬ (a1 = a2) → Φ 1))) ∧ (¬ (a2 ≤ a1) → Φ (-1)))
set_option maxRecDepth 100000 in
set_option maxHeartbeats 4000000 in
theorem sp_Int_compare {d : Nat} {Post : Option Value → Mm → Prop} {M : Mm} {a1 : Int32} {a2 : Int32} {Φ : Int32 → Prop} (h : S_Int_compare M a1 a2 Φ) (hΦ : ∀ r, Φ r → Post (some (.int r)) M) : Ct (d + 1) 82 [.int a1, .int a2] M Post := by
  refine Ct.go (n := 2) (E := [some (.int a1), some (.int a2)]) (by decide +kernel) (by simp [Value.category]) rfl ?_
  refine WP.blk [(.iload_n 0, 1, (0, 0), .null), (.iload_n 1, 1, (0, 0), .null)] (G := True) (c' := (2, [some (.int a1), some (.int a2)], [.int a2, .int a1], M)) (by decide +kernel) rfl trivial ?_
  refine WP.br (.if_icmp .ge 7, 3, (9, 0), .null) (by decide +kernel) rfl (fun c1 => ?_) (fun c1 => ?_)
  · replace h := h.1 c1
    refine WP.blk [(.iload_n 0, 1, (0, 0), .null), (.iload_n 1, 1, (0, 0), .null)] (G := True) (c' := (11, [some (.int a1), some (.int a2)], [.int a2, .int a1], M)) (by decide +kernel) rfl trivial ?_
    refine WP.br (.if_icmp .ne 7, 3, (18, 0), .null) (by decide +kernel) rfl (fun c2 => ?_) (fun c2 => ?_)
    · replace h := h.2 c2
      refine WP.blk [(.iconst 1, 1, (0, 0), .int 1)] (G := True) (c' := (19, [some (.int a1), some (.int a2)], [.int 1], M)) (by decide +kernel) rfl trivial ?_
      exact WP.ret (.ireturn, 1, (0, 0), .null) (rk := 1) (by decide +kernel) (by decide +kernel) rfl trivial (hΦ _ h)
    · replace h := h.1 (Classical.not_not.mp c2)
      refine WP.blk [(.iconst 0, 1, (0, 0), .int 0), (.goto 4, 3, (19, 0), .null)] (G := True) (c' := (19, [some (.int a1), some (.int a2)], [.int 0], M)) (by decide +kernel) rfl trivial ?_
      exact WP.ret (.ireturn, 1, (0, 0), .null) (rk := 1) (by decide +kernel) (by decide +kernel) rfl trivial (hΦ _ h)
  · replace h := h.2 c1
    refine WP.blk [(.iconst (-1), 1, (0, 0), .int (-1)), (.goto 13, 3, (19, 0), .null)] (G := True) (c' := (19, [some (.int a1), some (.int a2)], [.int (-1)], M)) (by decide +kernel) rfl trivial ?_
    exact WP.ret (.ireturn, 1, (0, 0), .null) (rk := 1) (by decide +kernel) (by decide +kernel) rfl trivial (hΦ _ h)
/-- java/lang/Math.abs(I)I -/
def S_Math_abs (M : Mm) (a1 : Int32) (Φ : Int32 → Prop) : Prop := ((0 ≤ a1 → Φ a1) ∧ (¬ (0 ≤ a1) → Φ (-a1)))
set_option maxRecDepth 100000 in
set_option maxHeartbeats 4000000 in
theorem sp_Math_abs {d : Nat} {Post : Option Value → Mm → Prop} {M : Mm} {a1 : Int32} {Φ : Int32 → Prop} (h : S_Math_abs M a1 Φ) (hΦ : ∀ r, Φ r → Post (some (.int r)) M) : Ct (d + 1) 83 [.int a1] M Post := by
  refine Ct.go (n := 1) (E := [some (.int a1)]) (by decide +kernel) (by simp [Value.category]) rfl ?_
  refine WP.blk [(.iload_n 0, 1, (0, 0), .null)] (G := True) (c' := (1, [some (.int a1)], [.int a1], M)) (by decide +kernel) rfl trivial ?_
  refine WP.br (.ifCond .ge 8, 3, (9, 0), .null) (by decide +kernel) rfl (fun c1 => ?_) (fun c1 => ?_)
  · replace h := h.1 c1
    refine WP.blk [(.iload_n 0, 1, (0, 0), .null)] (G := True) (c' := (10, [some (.int a1)], [.int a1], M)) (by decide +kernel) rfl trivial ?_
    exact WP.ret (.ireturn, 1, (0, 0), .null) (rk := 1) (by decide +kernel) (by decide +kernel) rfl trivial (hΦ _ h)
  · replace h := h.2 c1
    refine WP.blk [(.iload_n 0, 1, (0, 0), .null), (.ineg, 1, (0, 0), .null), (.goto 4, 3, (10, 0), .null)] (G := True) (c' := (10, [some (.int a1)], [.int (-a1)], M)) (by decide +kernel) rfl trivial ?_
    exact WP.ret (.ireturn, 1, (0, 0), .null) (rk := 1) (by decide +kernel) (by decide +kernel) rfl trivial (hΦ _ h)
/-- GearRoad$Bike.cogCost(III)I -/
def D_Bike_cogCost_21 (k : Nat) (M : Mm) (Φ : Int32 → Prop) (rec_21 : Int32 × Int32 × Int32 × Int32 × Int32 → Prop) : Int32 × Int32 × Int32 × Int32 × Int32 → Prop
  | (x1, x2, x3, x4, x5) => ((x5 ≤ 0 → Φ x3) ∧ (¬ (x5 ≤ 0) → S_Bike_mayLeave k M x4 x1 (fun r7 => ((r7 = 0 → Φ (-1000000)) ∧ (¬ (r7 = 0) → S_Bike_turnsOnto k M (x4 + x2) (fun r9 => rec_21 (x1, x2, (x3 + r9), (x4 + x2), (x5 + (-1)))))))))
def S_Bike_cogCost (k : Nat) (M : Mm) (a1 : Int32) (a2 : Int32) (a3 : Int32) (Φ : Int32 → Prop) : Prop := S_Int_compare M a2 a1 (fun r1 => S_Math_abs M (a2 - a1) (fun r2 => ∃ n, lp (D_Bike_cogCost_21 k M Φ) n (a3, r1, 0, a1, r2)))
set_option maxRecDepth 100000 in
set_option maxHeartbeats 4000000 in
theorem L_Bike_cogCost_21 {d : Nat} {Post : Option Value → Mm → Prop} {k : Nat} {M : Mm} {rec_21 : Int32 × Int32 × Int32 × Int32 × Int32 → Prop} {Φ : Int32 → Prop} (hk : k = 7 ∨ k = 13) (hΦ : ∀ r, Φ r → Post (some (.int r)) M) (hrec_21 : ∀ (x1 : Int32) (x2 : Int32) (x3 : Int32) (x4 : Int32) (x5 : Int32), rec_21 (x1, x2, x3, x4, x5) → WP (Ct (d + 1)) 81 Post (21, [some (.ref k), none, none, some (.int x1), some (.int x2), some (.int x3), some (.int x4), some (.int x5)], [], M)) : ∀ (x1 : Int32) (x2 : Int32) (x3 : Int32) (x4 : Int32) (x5 : Int32), D_Bike_cogCost_21 k M Φ rec_21 (x1, x2, x3, x4, x5) → WP (Ct (d + 1)) 81 Post (21, [some (.ref k), none, none, some (.int x1), some (.int x2), some (.int x3), some (.int x4), some (.int x5)], [], M) := by
  rcases hk with rfl | rfl
  · intro x1 x2 x3 x4 x5 h
    replace h : ((x5 ≤ 0 → Φ x3) ∧ (¬ (x5 ≤ 0) → S_Bike_mayLeave 7 M x4 x1 (fun r7 => ((r7 = 0 → Φ (-1000000)) ∧ (¬ (r7 = 0) → S_Bike_turnsOnto 7 M (x4 + x2) (fun r9 => rec_21 (x1, x2, (x3 + r9), (x4 + x2), (x5 + (-1))))))))) := h
    refine WP.blk [(.iload 7, 2, (0, 0), .null)] (G := True) (c' := (23, [some (.ref 7), none, none, some (.int x1), some (.int x2), some (.int x3), some (.int x4), some (.int x5)], [.int x5], M)) (by decide +kernel) rfl trivial ?_
    refine WP.br (.ifCond .le 40, 3, (63, 0), .null) (by decide +kernel) rfl (fun c6 => ?_) (fun c6 => ?_)
    · replace h := h.1 c6
      refine WP.blk [(.iload 5, 2, (0, 0), .null)] (G := True) (c' := (65, [some (.ref 7), none, none, some (.int x1), some (.int x2), some (.int x3), some (.int x4), some (.int x5)], [.int x3], M)) (by decide +kernel) rfl trivial ?_
      exact WP.ret (.ireturn, 1, (0, 0), .null) (rk := 1) (by decide +kernel) (by decide +kernel) rfl trivial (hΦ _ h)
    · replace h := h.2 c6
      refine WP.blk [(.aload_n 0, 1, (0, 0), .null), (.iload 6, 2, (0, 0), .null), (.iload_n 3, 1, (0, 0), .null)] (G := True) (c' := (30, [some (.ref 7), none, none, some (.int x1), some (.int x2), some (.int x3), some (.int x4), some (.int x5)], [.int x1, .int x4, .ref 7], M)) (by decide +kernel) rfl trivial ?_
      refine WP.call (.invokevirtual 115, 3, (62, 3), .retAddr 1) (by decide +kernel) rfl (sp_Bike_mayLeave (d := d + 0) (by decide) h (fun r7 h => ?_))
      show WP (Ct (d + 1)) 81 Post (33, [some (.ref 7), none, none, some (.int x1), some (.int x2), some (.int x3), some (.int x4), some (.int x5)], [.int r7], M)
      refine WP.br (.ifCond .ne 6, 3, (39, 0), .null) (by decide +kernel) rfl (fun c8 => ?_) (fun c8 => ?_)
      · replace h := h.2 c8
        refine WP.blk [(.iload 6, 2, (0, 0), .null), (.iload 4, 2, (0, 0), .null), (.iadd, 1, (0, 0), .null), (.istore 6, 2, (0, 0), .null), (.iload 5, 2, (0, 0), .null), (.aload_n 0, 1, (0, 0), .null), (.iload 6, 2, (0, 0), .null)] (G := True) (c' := (51, [some (.ref 7), none, none, some (.int x1), some (.int x2), some (.int x3), some (.int (x4 + x2)), some (.int x5)], [.int (x4 + x2), .ref 7, .int x3], M)) (by decide +kernel) rfl trivial ?_
        refine WP.call (.invokevirtual 118, 3, (64, 2), .retAddr 1) (by decide +kernel) rfl (sp_Bike_turnsOnto (d := d + 0) (by decide) h (fun r9 h => ?_))
        show WP (Ct (d + 1)) 81 Post (54, [some (.ref 7), none, none, some (.int x1), some (.int x2), some (.int x3), some (.int (x4 + x2)), some (.int x5)], [.int r9, .int x3], M)
        refine WP.blk [(.iadd, 1, (0, 0), .null), (.istore 5, 2, (0, 0), .null), (.iinc 7 (-1), 3, (0, 0), .int (-1)), (.goto (-39), 3, (21, 0), .null)] (G := True) (c' := (21, [some (.ref 7), none, none, some (.int x1), some (.int x2), some (.int (x3 + r9)), some (.int (x4 + x2)), some (.int (x5 + (-1)))], [], M)) (by decide +kernel) rfl trivial ?_
        exact hrec_21 _ _ _ _ _ h
      · replace h := h.1 (Classical.not_not.mp c8)
        refine WP.blk [(.ldc 125, 2, (0, 0), .int (-1000000))] (G := True) (c' := (38, [some (.ref 7), none, none, some (.int x1), some (.int x2), some (.int x3), some (.int x4), some (.int x5)], [.int (-1000000)], M)) (by decide +kernel) rfl trivial ?_
        exact WP.ret (.ireturn, 1, (0, 0), .null) (rk := 1) (by decide +kernel) (by decide +kernel) rfl trivial (hΦ _ h)
  · intro x1 x2 x3 x4 x5 h
    replace h : ((x5 ≤ 0 → Φ x3) ∧ (¬ (x5 ≤ 0) → S_Bike_mayLeave 13 M x4 x1 (fun r7 => ((r7 = 0 → Φ (-1000000)) ∧ (¬ (r7 = 0) → S_Bike_turnsOnto 13 M (x4 + x2) (fun r9 => rec_21 (x1, x2, (x3 + r9), (x4 + x2), (x5 + (-1))))))))) := h
    refine WP.blk [(.iload 7, 2, (0, 0), .null)] (G := True) (c' := (23, [some (.ref 13), none, none, some (.int x1), some (.int x2), some (.int x3), some (.int x4), some (.int x5)], [.int x5], M)) (by decide +kernel) rfl trivial ?_
    refine WP.br (.ifCond .le 40, 3, (63, 0), .null) (by decide +kernel) rfl (fun c6 => ?_) (fun c6 => ?_)
    · replace h := h.1 c6
      refine WP.blk [(.iload 5, 2, (0, 0), .null)] (G := True) (c' := (65, [some (.ref 13), none, none, some (.int x1), some (.int x2), some (.int x3), some (.int x4), some (.int x5)], [.int x3], M)) (by decide +kernel) rfl trivial ?_
      exact WP.ret (.ireturn, 1, (0, 0), .null) (rk := 1) (by decide +kernel) (by decide +kernel) rfl trivial (hΦ _ h)
    · replace h := h.2 c6
      refine WP.blk [(.aload_n 0, 1, (0, 0), .null), (.iload 6, 2, (0, 0), .null), (.iload_n 3, 1, (0, 0), .null)] (G := True) (c' := (30, [some (.ref 13), none, none, some (.int x1), some (.int x2), some (.int x3), some (.int x4), some (.int x5)], [.int x1, .int x4, .ref 13], M)) (by decide +kernel) rfl trivial ?_
      refine WP.call (.invokevirtual 115, 3, (62, 3), .retAddr 1) (by decide +kernel) rfl (sp_Bike_mayLeave (d := d + 0) (by decide) h (fun r7 h => ?_))
      show WP (Ct (d + 1)) 81 Post (33, [some (.ref 13), none, none, some (.int x1), some (.int x2), some (.int x3), some (.int x4), some (.int x5)], [.int r7], M)
      refine WP.br (.ifCond .ne 6, 3, (39, 0), .null) (by decide +kernel) rfl (fun c8 => ?_) (fun c8 => ?_)
      · replace h := h.2 c8
        refine WP.blk [(.iload 6, 2, (0, 0), .null), (.iload 4, 2, (0, 0), .null), (.iadd, 1, (0, 0), .null), (.istore 6, 2, (0, 0), .null), (.iload 5, 2, (0, 0), .null), (.aload_n 0, 1, (0, 0), .null), (.iload 6, 2, (0, 0), .null)] (G := True) (c' := (51, [some (.ref 13), none, none, some (.int x1), some (.int x2), some (.int x3), some (.int (x4 + x2)), some (.int x5)], [.int (x4 + x2), .ref 13, .int x3], M)) (by decide +kernel) rfl trivial ?_
        refine WP.call (.invokevirtual 118, 3, (64, 2), .retAddr 1) (by decide +kernel) rfl (sp_Bike_turnsOnto (d := d + 0) (by decide) h (fun r9 h => ?_))
        show WP (Ct (d + 1)) 81 Post (54, [some (.ref 13), none, none, some (.int x1), some (.int x2), some (.int x3), some (.int (x4 + x2)), some (.int x5)], [.int r9, .int x3], M)
        refine WP.blk [(.iadd, 1, (0, 0), .null), (.istore 5, 2, (0, 0), .null), (.iinc 7 (-1), 3, (0, 0), .int (-1)), (.goto (-39), 3, (21, 0), .null)] (G := True) (c' := (21, [some (.ref 13), none, none, some (.int x1), some (.int x2), some (.int (x3 + r9)), some (.int (x4 + x2)), some (.int (x5 + (-1)))], [], M)) (by decide +kernel) rfl trivial ?_
        exact hrec_21 _ _ _ _ _ h
      · replace h := h.1 (Classical.not_not.mp c8)
        refine WP.blk [(.ldc 125, 2, (0, 0), .int (-1000000))] (G := True) (c' := (38, [some (.ref 13), none, none, some (.int x1), some (.int x2), some (.int x3), some (.int x4), some (.int x5)], [.int (-1000000)], M)) (by decide +kernel) rfl trivial ?_
        exact WP.ret (.ireturn, 1, (0, 0), .null) (rk := 1) (by decide +kernel) (by decide +kernel) rfl trivial (hΦ _ h)
theorem P_Bike_cogCost_21 {d : Nat} {Post : Option Value → Mm → Prop} {k : Nat} {M : Mm} {Φ : Int32 → Prop} (hk : k = 7 ∨ k = 13) (hΦ : ∀ r, Φ r → Post (some (.int r)) M) : ∀ (n : Nat) (x1 : Int32) (x2 : Int32) (x3 : Int32) (x4 : Int32) (x5 : Int32), lp (D_Bike_cogCost_21 k M Φ) n (x1, x2, x3, x4, x5) → WP (Ct (d + 1)) 81 Post (21, [some (.ref k), none, none, some (.int x1), some (.int x2), some (.int x3), some (.int x4), some (.int x5)], [], M)
  | 0, x1, x2, x3, x4, x5, h => absurd h (by simp [lp])
  | n + 1, x1, x2, x3, x4, x5, h => L_Bike_cogCost_21 hk hΦ (P_Bike_cogCost_21 hk hΦ n) x1 x2 x3 x4 x5 h
set_option maxRecDepth 100000 in
set_option maxHeartbeats 4000000 in
theorem sp_Bike_cogCost {d : Nat} {Post : Option Value → Mm → Prop} {k : Nat} {M : Mm} {a1 : Int32} {a2 : Int32} {a3 : Int32} {Φ : Int32 → Prop} (hk : k = 7 ∨ k = 13) (h : S_Bike_cogCost k M a1 a2 a3 Φ) (hΦ : ∀ r, Φ r → Post (some (.int r)) M) : Ct (d + 2) 81 [.ref k, .int a1, .int a2, .int a3] M Post := by
  rcases hk with rfl | rfl
  · refine Ct.go (n := 8) (E := [some (.ref 7), some (.int a1), some (.int a2), some (.int a3), none, none, none, none]) (by decide +kernel) (by simp [Value.category]) rfl ?_
    refine WP.blk [(.iload_n 2, 1, (0, 0), .null), (.iload_n 1, 1, (0, 0), .null)] (G := True) (c' := (2, [some (.ref 7), some (.int a1), some (.int a2), some (.int a3), none, none, none, none], [.int a1, .int a2], M)) (by decide +kernel) rfl trivial ?_
    refine WP.call (.invokestatic 132, 3, (82, 2), .null) (by decide +kernel) rfl (sp_Int_compare (d := d + 0) h (fun r1 h => ?_))
    show WP (Ct (d + 1)) 81 Post (5, [some (.ref 7), some (.int a1), some (.int a2), some (.int a3), none, none, none, none], [.int r1], M)
    refine WP.blk [(.istore 4, 2, (0, 0), .null), (.iconst 0, 1, (0, 0), .int 0), (.istore 5, 2, (0, 0), .null), (.iload_n 1, 1, (0, 0), .null), (.istore 6, 2, (0, 0), .null), (.iload_n 2, 1, (0, 0), .null), (.iload_n 1, 1, (0, 0), .null), (.isub, 1, (0, 0), .null)] (G := True) (c' := (16, [some (.ref 7), some (.int a1), some (.int a2), some (.int a3), some (.int r1), some (.int 0), some (.int a1), none], [.int (a2 - a1)], M)) (by decide +kernel) rfl trivial ?_
    refine WP.call (.invokestatic 129, 3, (83, 1), .null) (by decide +kernel) rfl (sp_Math_abs (d := d + 0) h (fun r2 h => ?_))
    show WP (Ct (d + 1)) 81 Post (19, [some (.ref 7), some (.int a1), some (.int a2), some (.int a3), some (.int r1), some (.int 0), some (.int a1), none], [.int r2], M)
    refine WP.blk [(.istore 7, 2, (0, 0), .null)] (G := True) (c' := (21, [some (.ref 7), some (.int a1), some (.int a2), some (.int a3), some (.int r1), some (.int 0), some (.int a1), some (.int r2)], [], M)) (by decide +kernel) rfl trivial ?_
    refine WP.fgt [some (.ref 7), none, none, some (.int a3), some (.int r1), some (.int 0), some (.int a1), some (.int r2)] (by simp [fgt]) ?_
    obtain ⟨n, h⟩ := h
    exact P_Bike_cogCost_21 (by decide) hΦ n _ _ _ _ _ h
  · refine Ct.go (n := 8) (E := [some (.ref 13), some (.int a1), some (.int a2), some (.int a3), none, none, none, none]) (by decide +kernel) (by simp [Value.category]) rfl ?_
    refine WP.blk [(.iload_n 2, 1, (0, 0), .null), (.iload_n 1, 1, (0, 0), .null)] (G := True) (c' := (2, [some (.ref 13), some (.int a1), some (.int a2), some (.int a3), none, none, none, none], [.int a1, .int a2], M)) (by decide +kernel) rfl trivial ?_
    refine WP.call (.invokestatic 132, 3, (82, 2), .null) (by decide +kernel) rfl (sp_Int_compare (d := d + 0) h (fun r1 h => ?_))
    show WP (Ct (d + 1)) 81 Post (5, [some (.ref 13), some (.int a1), some (.int a2), some (.int a3), none, none, none, none], [.int r1], M)
    refine WP.blk [(.istore 4, 2, (0, 0), .null), (.iconst 0, 1, (0, 0), .int 0), (.istore 5, 2, (0, 0), .null), (.iload_n 1, 1, (0, 0), .null), (.istore 6, 2, (0, 0), .null), (.iload_n 2, 1, (0, 0), .null), (.iload_n 1, 1, (0, 0), .null), (.isub, 1, (0, 0), .null)] (G := True) (c' := (16, [some (.ref 13), some (.int a1), some (.int a2), some (.int a3), some (.int r1), some (.int 0), some (.int a1), none], [.int (a2 - a1)], M)) (by decide +kernel) rfl trivial ?_
    refine WP.call (.invokestatic 129, 3, (83, 1), .null) (by decide +kernel) rfl (sp_Math_abs (d := d + 0) h (fun r2 h => ?_))
    show WP (Ct (d + 1)) 81 Post (19, [some (.ref 13), some (.int a1), some (.int a2), some (.int a3), some (.int r1), some (.int 0), some (.int a1), none], [.int r2], M)
    refine WP.blk [(.istore 7, 2, (0, 0), .null)] (G := True) (c' := (21, [some (.ref 13), some (.int a1), some (.int a2), some (.int a3), some (.int r1), some (.int 0), some (.int a1), some (.int r2)], [], M)) (by decide +kernel) rfl trivial ?_
    refine WP.fgt [some (.ref 13), none, none, some (.int a3), some (.int r1), some (.int 0), some (.int a1), some (.int r2)] (by simp [fgt]) ?_
    obtain ⟨n, h⟩ := h
    exact P_Bike_cogCost_21 (by decide) hΦ n _ _ _ _ _ h
/-- GearRoad$Bike.ringCost(II)I -/
def S_Bike_ringCost (M : Mm) (a1 : Int32) (a2 : Int32) (Φ : Int32 → Prop) : Prop := S_Math_abs M ((a1 / 6) - (a2 / 6)) (fun r1 => Φ (5 * r1))
set_option maxRecDepth 100000 in
set_option maxHeartbeats 4000000 in
theorem sp_Bike_ringCost {d : Nat} {Post : Option Value → Mm → Prop} {M : Mm} {a1 : Int32} {a2 : Int32} {Φ : Int32 → Prop} (h : S_Bike_ringCost M a1 a2 Φ) (hΦ : ∀ r, Φ r → Post (some (.int r)) M) : Ct (d + 2) 84 [.int a1, .int a2] M Post := by
  refine Ct.go (n := 2) (E := [some (.int a1), some (.int a2)]) (by decide +kernel) (by simp [Value.category]) rfl ?_
  refine WP.blk [(.iconst 5, 1, (0, 0), .int 5), (.iload_n 0, 1, (0, 0), .null), (.bipush 6, 2, (0, 0), .int 6), (.idiv, 1, (0, 0), .null), (.iload_n 1, 1, (0, 0), .null), (.bipush 6, 2, (0, 0), .int 6), (.idiv, 1, (0, 0), .null), (.isub, 1, (0, 0), .null)] (G := ¬ (6 : Int32) = 0 ∧ ¬ (6 : Int32) = 0 ∧ True) (c' := (10, [some (.int a1), some (.int a2)], [.int ((a1 / 6) - (a2 / 6)), .int 5], M)) (by decide +kernel) rfl ⟨(by decide), (by decide), trivial⟩ ?_
  refine WP.call (.invokestatic 129, 3, (83, 1), .null) (by decide +kernel) rfl (sp_Math_abs (d := d + 0) h (fun r1 h => ?_))
  show WP (Ct (d + 1)) 84 Post (13, [some (.int a1), some (.int a2)], [.int r1, .int 5], M)
  refine WP.blk [(.imul, 1, (0, 0), .null)] (G := True) (c' := (14, [some (.int a1), some (.int a2)], [.int (5 * r1)], M)) (by decide +kernel) rfl trivial ?_
  exact WP.ret (.ireturn, 1, (0, 0), .null) (rk := 1) (by decide +kernel) (by decide +kernel) rfl trivial (hΦ _ h)
/-- GearRoad$Bike.shiftCost(III)I -/
def S_Bike_shiftCost (k : Nat) (M : Mm) (a1 : Int32) (a2 : Int32) (a3 : Int32) (Φ : Int32 → Prop) : Prop := S_Bike_cogCost k M (irm a1 6) (irm a2 6) a3 (fun r1 => ((r1 = (-1000000) → Φ (-1000000)) ∧ (¬ (r1 = (-1000000)) → S_Bike_ringCost M a1 a2 (fun r3 => Φ (r1 + r3)))))
set_option maxRecDepth 100000 in
set_option maxHeartbeats 4000000 in
theorem sp_Bike_shiftCost {d : Nat} {Post : Option Value → Mm → Prop} {k : Nat} {M : Mm} {a1 : Int32} {a2 : Int32} {a3 : Int32} {Φ : Int32 → Prop} (hk : k = 7 ∨ k = 13) (h : S_Bike_shiftCost k M a1 a2 a3 Φ) (hΦ : ∀ r, Φ r → Post (some (.int r)) M) : Ct (d + 3) 80 [.ref k, .int a1, .int a2, .int a3] M Post := by
  rcases hk with rfl | rfl
  · refine Ct.go (n := 5) (E := [some (.ref 7), some (.int a1), some (.int a2), some (.int a3), none]) (by decide +kernel) (by simp [Value.category]) rfl ?_
    refine WP.blk [(.aload_n 0, 1, (0, 0), .null), (.iload_n 1, 1, (0, 0), .null), (.bipush 6, 2, (0, 0), .int 6), (.irem, 1, (0, 0), .null), (.iload_n 2, 1, (0, 0), .null), (.bipush 6, 2, (0, 0), .int 6), (.irem, 1, (0, 0), .null), (.iload_n 3, 1, (0, 0), .null)] (G := ¬ (6 : Int32) = 0 ∧ ¬ (6 : Int32) = 0 ∧ True) (c' := (10, [some (.ref 7), some (.int a1), some (.int a2), some (.int a3), none], [.int a3, .int (irm a2 6), .int (irm a1 6), .ref 7], M)) (by decide +kernel) rfl ⟨(by decide), (by decide), trivial⟩ ?_
    refine WP.call (.invokevirtual 122, 3, (81, 4), .retAddr 1) (by decide +kernel) rfl (sp_Bike_cogCost (d := d + 0) (by decide) h (fun r1 h => ?_))
    show WP (Ct (d + 2)) 80 Post (13, [some (.ref 7), some (.int a1), some (.int a2), some (.int a3), none], [.int r1], M)
    refine WP.blk [(.istore 4, 2, (0, 0), .null), (.iload 4, 2, (0, 0), .null), (.ldc 125, 2, (0, 0), .int (-1000000))] (G := True) (c' := (19, [some (.ref 7), some (.int a1), some (.int a2), some (.int a3), some (.int r1)], [.int (-1000000), .int r1], M)) (by decide +kernel) rfl trivial ?_
    refine WP.br (.if_icmp .ne 8, 3, (27, 0), .null) (by decide +kernel) rfl (fun c2 => ?_) (fun c2 => ?_)
    · replace h := h.2 c2
      refine WP.blk [(.iload 4, 2, (0, 0), .null), (.iload_n 1, 1, (0, 0), .null), (.iload_n 2, 1, (0, 0), .null)] (G := True) (c' := (31, [some (.ref 7), some (.int a1), some (.int a2), some (.int a3), some (.int r1)], [.int a2, .int a1, .int r1], M)) (by decide +kernel) rfl trivial ?_
      refine WP.call (.invokestatic 126, 3, (84, 2), .null) (by decide +kernel) rfl (sp_Bike_ringCost (d := d + 0) h (fun r3 h => ?_))
      show WP (Ct (d + 2)) 80 Post (34, [some (.ref 7), some (.int a1), some (.int a2), some (.int a3), some (.int r1)], [.int r3, .int r1], M)
      refine WP.blk [(.iadd, 1, (0, 0), .null)] (G := True) (c' := (35, [some (.ref 7), some (.int a1), some (.int a2), some (.int a3), some (.int r1)], [.int (r1 + r3)], M)) (by decide +kernel) rfl trivial ?_
      exact WP.ret (.ireturn, 1, (0, 0), .null) (rk := 1) (by decide +kernel) (by decide +kernel) rfl trivial (hΦ _ h)
    · replace h := h.1 (Classical.not_not.mp c2)
      refine WP.blk [(.ldc 125, 2, (0, 0), .int (-1000000)), (.goto 11, 3, (35, 0), .null)] (G := True) (c' := (35, [some (.ref 7), some (.int a1), some (.int a2), some (.int a3), some (.int r1)], [.int (-1000000)], M)) (by decide +kernel) rfl trivial ?_
      exact WP.ret (.ireturn, 1, (0, 0), .null) (rk := 1) (by decide +kernel) (by decide +kernel) rfl trivial (hΦ _ h)
  · refine Ct.go (n := 5) (E := [some (.ref 13), some (.int a1), some (.int a2), some (.int a3), none]) (by decide +kernel) (by simp [Value.category]) rfl ?_
    refine WP.blk [(.aload_n 0, 1, (0, 0), .null), (.iload_n 1, 1, (0, 0), .null), (.bipush 6, 2, (0, 0), .int 6), (.irem, 1, (0, 0), .null), (.iload_n 2, 1, (0, 0), .null), (.bipush 6, 2, (0, 0), .int 6), (.irem, 1, (0, 0), .null), (.iload_n 3, 1, (0, 0), .null)] (G := ¬ (6 : Int32) = 0 ∧ ¬ (6 : Int32) = 0 ∧ True) (c' := (10, [some (.ref 13), some (.int a1), some (.int a2), some (.int a3), none], [.int a3, .int (irm a2 6), .int (irm a1 6), .ref 13], M)) (by decide +kernel) rfl ⟨(by decide), (by decide), trivial⟩ ?_
    refine WP.call (.invokevirtual 122, 3, (81, 4), .retAddr 1) (by decide +kernel) rfl (sp_Bike_cogCost (d := d + 0) (by decide) h (fun r1 h => ?_))
    show WP (Ct (d + 2)) 80 Post (13, [some (.ref 13), some (.int a1), some (.int a2), some (.int a3), none], [.int r1], M)
    refine WP.blk [(.istore 4, 2, (0, 0), .null), (.iload 4, 2, (0, 0), .null), (.ldc 125, 2, (0, 0), .int (-1000000))] (G := True) (c' := (19, [some (.ref 13), some (.int a1), some (.int a2), some (.int a3), some (.int r1)], [.int (-1000000), .int r1], M)) (by decide +kernel) rfl trivial ?_
    refine WP.br (.if_icmp .ne 8, 3, (27, 0), .null) (by decide +kernel) rfl (fun c2 => ?_) (fun c2 => ?_)
    · replace h := h.2 c2
      refine WP.blk [(.iload 4, 2, (0, 0), .null), (.iload_n 1, 1, (0, 0), .null), (.iload_n 2, 1, (0, 0), .null)] (G := True) (c' := (31, [some (.ref 13), some (.int a1), some (.int a2), some (.int a3), some (.int r1)], [.int a2, .int a1, .int r1], M)) (by decide +kernel) rfl trivial ?_
      refine WP.call (.invokestatic 126, 3, (84, 2), .null) (by decide +kernel) rfl (sp_Bike_ringCost (d := d + 0) h (fun r3 h => ?_))
      show WP (Ct (d + 2)) 80 Post (34, [some (.ref 13), some (.int a1), some (.int a2), some (.int a3), some (.int r1)], [.int r3, .int r1], M)
      refine WP.blk [(.iadd, 1, (0, 0), .null)] (G := True) (c' := (35, [some (.ref 13), some (.int a1), some (.int a2), some (.int a3), some (.int r1)], [.int (r1 + r3)], M)) (by decide +kernel) rfl trivial ?_
      exact WP.ret (.ireturn, 1, (0, 0), .null) (rk := 1) (by decide +kernel) (by decide +kernel) rfl trivial (hΦ _ h)
    · replace h := h.1 (Classical.not_not.mp c2)
      refine WP.blk [(.ldc 125, 2, (0, 0), .int (-1000000)), (.goto 11, 3, (35, 0), .null)] (G := True) (c' := (35, [some (.ref 13), some (.int a1), some (.int a2), some (.int a3), some (.int r1)], [.int (-1000000)], M)) (by decide +kernel) rfl trivial ?_
      exact WP.ret (.ireturn, 1, (0, 0), .null) (rk := 1) (by decide +kernel) (by decide +kernel) rfl trivial (hΦ _ h)
/-- GearRoad$Bike.compareGears(II)I -/
def S_Bike_compareGears (k : Nat) (M : Mm) (a1 : Int32) (a2 : Int32) (Φ : Int32 → Prop) : Prop := vp_in (a1 / 6) 3 ∧ vp_in (irm a2 6) 6 ∧ vp_in (a2 / 6) 3 ∧ vp_in (irm a1 6) 6 ∧ S_Int_compare M ((M (k + 1) (Int32.toNatClampNeg (a1 / 6))) * (M (k + 3) (Int32.toNatClampNeg (irm a2 6)))) ((M (k + 1) (Int32.toNatClampNeg (a2 / 6))) * (M (k + 3) (Int32.toNatClampNeg (irm a1 6)))) (fun r1 => Φ r1)
set_option maxRecDepth 100000 in
set_option maxHeartbeats 4000000 in
theorem sp_Bike_compareGears {d : Nat} {Post : Option Value → Mm → Prop} {k : Nat} {M : Mm} {a1 : Int32} {a2 : Int32} {Φ : Int32 → Prop} (hk : k = 7 ∨ k = 13) (h : S_Bike_compareGears k M a1 a2 Φ) (hΦ : ∀ r, Φ r → Post (some (.int r)) M) : Ct (d + 2) 102 [.ref k, .int a1, .int a2] M Post := by
  rcases hk with rfl | rfl
  · refine Ct.go (n := 3) (E := [some (.ref 7), some (.int a1), some (.int a2)]) (by decide +kernel) (by simp [Value.category]) rfl ?_
    refine WP.blk [(.aload_n 0, 1, (0, 0), .null), (.getfield 40, 3, (1, 9), .null), (.iload_n 1, 1, (0, 0), .null), (.bipush 6, 2, (0, 0), .int 6), (.idiv, 1, (0, 0), .null), (.iaload, 1, (0, 0), .null), (.aload_n 0, 1, (0, 0), .null), (.getfield 47, 3, (1, 11), .null), (.iload_n 2, 1, (0, 0), .null), (.bipush 6, 2, (0, 0), .int 6), (.irem, 1, (0, 0), .null), (.iaload, 1, (0, 0), .null), (.imul, 1, (0, 0), .null), (.aload_n 0, 1, (0, 0), .null), (.getfield 40, 3, (1, 9), .null), (.iload_n 2, 1, (0, 0), .null), (.bipush 6, 2, (0, 0), .int 6), (.idiv, 1, (0, 0), .null), (.iaload, 1, (0, 0), .null), (.aload_n 0, 1, (0, 0), .null), (.getfield 47, 3, (1, 11), .null), (.iload_n 1, 1, (0, 0), .null), (.bipush 6, 2, (0, 0), .int 6), (.irem, 1, (0, 0), .null), (.iaload, 1, (0, 0), .null), (.imul, 1, (0, 0), .null)] (G := ¬ (6 : Int32) = 0 ∧ vp_in (a1 / 6) 3 ∧ ¬ (6 : Int32) = 0 ∧ vp_in (irm a2 6) 6 ∧ ¬ (6 : Int32) = 0 ∧ vp_in (a2 / 6) 3 ∧ ¬ (6 : Int32) = 0 ∧ vp_in (irm a1 6) 6 ∧ True) (c' := (38, [some (.ref 7), some (.int a1), some (.int a2)], [.int ((M 8 (Int32.toNatClampNeg (a2 / 6))) * (M 10 (Int32.toNatClampNeg (irm a1 6)))), .int ((M 8 (Int32.toNatClampNeg (a1 / 6))) * (M 10 (Int32.toNatClampNeg (irm a2 6))))], M)) (by decide +kernel) rfl ⟨(by decide), h.1, (by decide), h.2.1, (by decide), h.2.2.1, (by decide), h.2.2.2.1, trivial⟩ ?_
    replace h := h.2.2.2.2
    refine WP.call (.invokestatic 132, 3, (82, 2), .null) (by decide +kernel) rfl (sp_Int_compare (d := d + 0) h (fun r1 h => ?_))
    show WP (Ct (d + 1)) 102 Post (41, [some (.ref 7), some (.int a1), some (.int a2)], [.int r1], M)
    exact WP.ret (.ireturn, 1, (0, 0), .null) (rk := 1) (by decide +kernel) (by decide +kernel) rfl trivial (hΦ _ h)
  · refine Ct.go (n := 3) (E := [some (.ref 13), some (.int a1), some (.int a2)]) (by decide +kernel) (by simp [Value.category]) rfl ?_
    refine WP.blk [(.aload_n 0, 1, (0, 0), .null), (.getfield 40, 3, (1, 9), .null), (.iload_n 1, 1, (0, 0), .null), (.bipush 6, 2, (0, 0), .int 6), (.idiv, 1, (0, 0), .null), (.iaload, 1, (0, 0), .null), (.aload_n 0, 1, (0, 0), .null), (.getfield 47, 3, (1, 11), .null), (.iload_n 2, 1, (0, 0), .null), (.bipush 6, 2, (0, 0), .int 6), (.irem, 1, (0, 0), .null), (.iaload, 1, (0, 0), .null), (.imul, 1, (0, 0), .null), (.aload_n 0, 1, (0, 0), .null), (.getfield 40, 3, (1, 9), .null), (.iload_n 2, 1, (0, 0), .null), (.bipush 6, 2, (0, 0), .int 6), (.idiv, 1, (0, 0), .null), (.iaload, 1, (0, 0), .null), (.aload_n 0, 1, (0, 0), .null), (.getfield 47, 3, (1, 11), .null), (.iload_n 1, 1, (0, 0), .null), (.bipush 6, 2, (0, 0), .int 6), (.irem, 1, (0, 0), .null), (.iaload, 1, (0, 0), .null), (.imul, 1, (0, 0), .null)] (G := ¬ (6 : Int32) = 0 ∧ vp_in (a1 / 6) 3 ∧ ¬ (6 : Int32) = 0 ∧ vp_in (irm a2 6) 6 ∧ ¬ (6 : Int32) = 0 ∧ vp_in (a2 / 6) 3 ∧ ¬ (6 : Int32) = 0 ∧ vp_in (irm a1 6) 6 ∧ True) (c' := (38, [some (.ref 13), some (.int a1), some (.int a2)], [.int ((M 14 (Int32.toNatClampNeg (a2 / 6))) * (M 16 (Int32.toNatClampNeg (irm a1 6)))), .int ((M 14 (Int32.toNatClampNeg (a1 / 6))) * (M 16 (Int32.toNatClampNeg (irm a2 6))))], M)) (by decide +kernel) rfl ⟨(by decide), h.1, (by decide), h.2.1, (by decide), h.2.2.1, (by decide), h.2.2.2.1, trivial⟩ ?_
    replace h := h.2.2.2.2
    refine WP.call (.invokestatic 132, 3, (82, 2), .null) (by decide +kernel) rfl (sp_Int_compare (d := d + 0) h (fun r1 h => ?_))
    show WP (Ct (d + 1)) 102 Post (41, [some (.ref 13), some (.int a1), some (.int a2)], [.int r1], M)
    exact WP.ret (.ireturn, 1, (0, 0), .null) (rk := 1) (by decide +kernel) (by decide +kernel) rfl trivial (hΦ _ h)
/-- GearRoad$Bike.lighterThan(I)I -/
def D_Bike_lighterThan_30 (k : Nat) (M : Mm) (Φ : Int32 → Prop) (rec_4 : Int32 × Int32 × Int32 → Prop) : Int32 × Int32 × Int32 → Prop
  | (x1, x2, x3) => rec_4 (x1, x2, (x3 + 1))
def D_Bike_lighterThan_4 (k : Nat) (M : Mm) (Φ : Int32 → Prop) (rec_4 : Int32 × Int32 × Int32 → Prop) : Int32 × Int32 × Int32 → Prop
  | (x1, x2, x3) => ((18 ≤ x3 → Φ x2) ∧ (¬ (18 ≤ x3) → S_Bike_hasGear k M x3 (fun r5 => ((r5 = 0 → D_Bike_lighterThan_30 k M Φ rec_4 (x1, x2, x3)) ∧ (¬ (r5 = 0) → S_Bike_compareGears k M x3 x1 (fun r7 => ((0 ≤ r7 → D_Bike_lighterThan_30 k M Φ rec_4 (x1, x2, x3)) ∧ (¬ (0 ≤ r7) → D_Bike_lighterThan_30 k M Φ rec_4 (x1, (x2 + 1), x3)))))))))
def S_Bike_lighterThan (k : Nat) (M : Mm) (a1 : Int32) (Φ : Int32 → Prop) : Prop := ∃ n, lp (D_Bike_lighterThan_4 k M Φ) n (a1, 0, 0)
set_option maxRecDepth 100000 in
set_option maxHeartbeats 4000000 in
theorem L_Bike_lighterThan_30 {d : Nat} {Post : Option Value → Mm → Prop} {k : Nat} {M : Mm} {rec_4 : Int32 × Int32 × Int32 → Prop} {Φ : Int32 → Prop} (hk : k = 7 ∨ k = 13) (hΦ : ∀ r, Φ r → Post (some (.int r)) M) (hrec_4 : ∀ (x1 : Int32) (x2 : Int32) (x3 : Int32), rec_4 (x1, x2, x3) → WP (Ct (d + 3)) 101 Post (4, [some (.ref k), some (.int x1), some (.int x2), some (.int x3)], [], M)) : ∀ (x1 : Int32) (x2 : Int32) (x3 : Int32), D_Bike_lighterThan_30 k M Φ rec_4 (x1, x2, x3) → WP (Ct (d + 3)) 101 Post (30, [some (.ref k), some (.int x1), some (.int x2), some (.int x3)], [], M) := by
  rcases hk with rfl | rfl
  · intro x1 x2 x3 h
    replace h : rec_4 (x1, x2, (x3 + 1)) := h
    refine WP.blk [(.iinc 3 1, 3, (0, 0), .int 1), (.goto (-29), 3, (4, 0), .null)] (G := True) (c' := (4, [some (.ref 7), some (.int x1), some (.int x2), some (.int (x3 + 1))], [], M)) (by decide +kernel) rfl trivial ?_
    exact hrec_4 _ _ _ h
  · intro x1 x2 x3 h
    replace h : rec_4 (x1, x2, (x3 + 1)) := h
    refine WP.blk [(.iinc 3 1, 3, (0, 0), .int 1), (.goto (-29), 3, (4, 0), .null)] (G := True) (c' := (4, [some (.ref 13), some (.int x1), some (.int x2), some (.int (x3 + 1))], [], M)) (by decide +kernel) rfl trivial ?_
    exact hrec_4 _ _ _ h
set_option maxRecDepth 100000 in
set_option maxHeartbeats 4000000 in
theorem L_Bike_lighterThan_4 {d : Nat} {Post : Option Value → Mm → Prop} {k : Nat} {M : Mm} {rec_4 : Int32 × Int32 × Int32 → Prop} {Φ : Int32 → Prop} (hk : k = 7 ∨ k = 13) (hΦ : ∀ r, Φ r → Post (some (.int r)) M) (hrec_4 : ∀ (x1 : Int32) (x2 : Int32) (x3 : Int32), rec_4 (x1, x2, x3) → WP (Ct (d + 3)) 101 Post (4, [some (.ref k), some (.int x1), some (.int x2), some (.int x3)], [], M)) : ∀ (x1 : Int32) (x2 : Int32) (x3 : Int32), D_Bike_lighterThan_4 k M Φ rec_4 (x1, x2, x3) → WP (Ct (d + 3)) 101 Post (4, [some (.ref k), some (.int x1), some (.int x2), some (.int x3)], [], M) := by
  rcases hk with rfl | rfl
  · intro x1 x2 x3 h
    replace h : ((18 ≤ x3 → Φ x2) ∧ (¬ (18 ≤ x3) → S_Bike_hasGear 7 M x3 (fun r5 => ((r5 = 0 → D_Bike_lighterThan_30 7 M Φ rec_4 (x1, x2, x3)) ∧ (¬ (r5 = 0) → S_Bike_compareGears 7 M x3 x1 (fun r7 => ((0 ≤ r7 → D_Bike_lighterThan_30 7 M Φ rec_4 (x1, x2, x3)) ∧ (¬ (0 ≤ r7) → D_Bike_lighterThan_30 7 M Φ rec_4 (x1, (x2 + 1), x3))))))))) := h
    refine WP.blk [(.iload_n 3, 1, (0, 0), .null), (.bipush 18, 2, (0, 0), .int 18)] (G := True) (c' := (7, [some (.ref 7), some (.int x1), some (.int x2), some (.int x3)], [.int 18, .int x3], M)) (by decide +kernel) rfl trivial ?_
    refine WP.br (.if_icmp .ge 29, 3, (36, 0), .null) (by decide +kernel) rfl (fun c4 => ?_) (fun c4 => ?_)
    · replace h := h.1 c4
      refine WP.blk [(.iload_n 2, 1, (0, 0), .null)] (G := True) (c' := (37, [some (.ref 7), some (.int x1), some (.int x2), some (.int x3)], [.int x2], M)) (by decide +kernel) rfl trivial ?_
      exact WP.ret (.ireturn, 1, (0, 0), .null) (rk := 1) (by decide +kernel) (by decide +kernel) rfl trivial (hΦ _ h)
    · replace h := h.2 c4
      refine WP.blk [(.aload_n 0, 1, (0, 0), .null), (.iload_n 3, 1, (0, 0), .null)] (G := True) (c' := (12, [some (.ref 7), some (.int x1), some (.int x2), some (.int x3)], [.int x3, .ref 7], M)) (by decide +kernel) rfl trivial ?_
      refine WP.call (.invokevirtual 73, 3, (48, 2), .retAddr 1) (by decide +kernel) rfl (sp_Bike_hasGear (d := d + 0) (by decide) h (fun r5 h => ?_))
      show WP (Ct (d + 3)) 101 Post (15, [some (.ref 7), some (.int x1), some (.int x2), some (.int x3)], [.int r5], M)
      refine WP.br (.ifCond .eq 15, 3, (30, 0), .null) (by decide +kernel) rfl (fun c6 => ?_) (fun c6 => ?_)
      · replace h := h.1 c6
        exact L_Bike_lighterThan_30 (by decide) hΦ hrec_4 _ _ _ h
      · replace h := h.2 c6
        refine WP.blk [(.aload_n 0, 1, (0, 0), .null), (.iload_n 3, 1, (0, 0), .null), (.iload_n 1, 1, (0, 0), .null)] (G := True) (c' := (21, [some (.ref 7), some (.int x1), some (.int x2), some (.int x3)], [.int x1, .int x3, .ref 7], M)) (by decide +kernel) rfl trivial ?_
        refine WP.call (.invokevirtual 137, 3, (102, 3), .retAddr 1) (by decide +kernel) rfl (sp_Bike_compareGears (d := d + 1) (by decide) h (fun r7 h => ?_))
        show WP (Ct (d + 3)) 101 Post (24, [some (.ref 7), some (.int x1), some (.int x2), some (.int x3)], [.int r7], M)
        refine WP.br (.ifCond .ge 6, 3, (30, 0), .null) (by decide +kernel) rfl (fun c8 => ?_) (fun c8 => ?_)
        · replace h := h.1 c8
          exact L_Bike_lighterThan_30 (by decide) hΦ hrec_4 _ _ _ h
        · replace h := h.2 c8
          refine WP.blk [(.iinc 2 1, 3, (0, 0), .int 1)] (G := True) (c' := (30, [some (.ref 7), some (.int x1), some (.int (x2 + 1)), some (.int x3)], [], M)) (by decide +kernel) rfl trivial ?_
          exact L_Bike_lighterThan_30 (by decide) hΦ hrec_4 _ _ _ h
  · intro x1 x2 x3 h
    replace h : ((18 ≤ x3 → Φ x2) ∧ (¬ (18 ≤ x3) → S_Bike_hasGear 13 M x3 (fun r5 => ((r5 = 0 → D_Bike_lighterThan_30 13 M Φ rec_4 (x1, x2, x3)) ∧ (¬ (r5 = 0) → S_Bike_compareGears 13 M x3 x1 (fun r7 => ((0 ≤ r7 → D_Bike_lighterThan_30 13 M Φ rec_4 (x1, x2, x3)) ∧ (¬ (0 ≤ r7) → D_Bike_lighterThan_30 13 M Φ rec_4 (x1, (x2 + 1), x3))))))))) := h
    refine WP.blk [(.iload_n 3, 1, (0, 0), .null), (.bipush 18, 2, (0, 0), .int 18)] (G := True) (c' := (7, [some (.ref 13), some (.int x1), some (.int x2), some (.int x3)], [.int 18, .int x3], M)) (by decide +kernel) rfl trivial ?_
    refine WP.br (.if_icmp .ge 29, 3, (36, 0), .null) (by decide +kernel) rfl (fun c4 => ?_) (fun c4 => ?_)
    · replace h := h.1 c4
      refine WP.blk [(.iload_n 2, 1, (0, 0), .null)] (G := True) (c' := (37, [some (.ref 13), some (.int x1), some (.int x2), some (.int x3)], [.int x2], M)) (by decide +kernel) rfl trivial ?_
      exact WP.ret (.ireturn, 1, (0, 0), .null) (rk := 1) (by decide +kernel) (by decide +kernel) rfl trivial (hΦ _ h)
    · replace h := h.2 c4
      refine WP.blk [(.aload_n 0, 1, (0, 0), .null), (.iload_n 3, 1, (0, 0), .null)] (G := True) (c' := (12, [some (.ref 13), some (.int x1), some (.int x2), some (.int x3)], [.int x3, .ref 13], M)) (by decide +kernel) rfl trivial ?_
      refine WP.call (.invokevirtual 73, 3, (48, 2), .retAddr 1) (by decide +kernel) rfl (sp_Bike_hasGear (d := d + 0) (by decide) h (fun r5 h => ?_))
      show WP (Ct (d + 3)) 101 Post (15, [some (.ref 13), some (.int x1), some (.int x2), some (.int x3)], [.int r5], M)
      refine WP.br (.ifCond .eq 15, 3, (30, 0), .null) (by decide +kernel) rfl (fun c6 => ?_) (fun c6 => ?_)
      · replace h := h.1 c6
        exact L_Bike_lighterThan_30 (by decide) hΦ hrec_4 _ _ _ h
      · replace h := h.2 c6
        refine WP.blk [(.aload_n 0, 1, (0, 0), .null), (.iload_n 3, 1, (0, 0), .null), (.iload_n 1, 1, (0, 0), .null)] (G := True) (c' := (21, [some (.ref 13), some (.int x1), some (.int x2), some (.int x3)], [.int x1, .int x3, .ref 13], M)) (by decide +kernel) rfl trivial ?_
        refine WP.call (.invokevirtual 137, 3, (102, 3), .retAddr 1) (by decide +kernel) rfl (sp_Bike_compareGears (d := d + 1) (by decide) h (fun r7 h => ?_))
        show WP (Ct (d + 3)) 101 Post (24, [some (.ref 13), some (.int x1), some (.int x2), some (.int x3)], [.int r7], M)
        refine WP.br (.ifCond .ge 6, 3, (30, 0), .null) (by decide +kernel) rfl (fun c8 => ?_) (fun c8 => ?_)
        · replace h := h.1 c8
          exact L_Bike_lighterThan_30 (by decide) hΦ hrec_4 _ _ _ h
        · replace h := h.2 c8
          refine WP.blk [(.iinc 2 1, 3, (0, 0), .int 1)] (G := True) (c' := (30, [some (.ref 13), some (.int x1), some (.int (x2 + 1)), some (.int x3)], [], M)) (by decide +kernel) rfl trivial ?_
          exact L_Bike_lighterThan_30 (by decide) hΦ hrec_4 _ _ _ h
theorem P_Bike_lighterThan_4 {d : Nat} {Post : Option Value → Mm → Prop} {k : Nat} {M : Mm} {Φ : Int32 → Prop} (hk : k = 7 ∨ k = 13) (hΦ : ∀ r, Φ r → Post (some (.int r)) M) : ∀ (n : Nat) (x1 : Int32) (x2 : Int32) (x3 : Int32), lp (D_Bike_lighterThan_4 k M Φ) n (x1, x2, x3) → WP (Ct (d + 3)) 101 Post (4, [some (.ref k), some (.int x1), some (.int x2), some (.int x3)], [], M)
  | 0, x1, x2, x3, h => absurd h (by simp [lp])
  | n + 1, x1, x2, x3, h => L_Bike_lighterThan_4 hk hΦ (P_Bike_lighterThan_4 hk hΦ n) x1 x2 x3 h
set_option maxRecDepth 100000 in
set_option maxHeartbeats 4000000 in
theorem sp_Bike_lighterThan {d : Nat} {Post : Option Value → Mm → Prop} {k : Nat} {M : Mm} {a1 : Int32} {Φ : Int32 → Prop} (hk : k = 7 ∨ k = 13) (h : S_Bike_lighterThan k M a1 Φ) (hΦ : ∀ r, Φ r → Post (some (.int r)) M) : Ct (d + 4) 101 [.ref k, .int a1] M Post := by
  rcases hk with rfl | rfl
  · refine Ct.go (n := 4) (E := [some (.ref 7), some (.int a1), none, none]) (by decide +kernel) (by simp [Value.category]) rfl ?_
    refine WP.blk [(.iconst 0, 1, (0, 0), .int 0), (.istore_n 2, 1, (0, 0), .null), (.iconst 0, 1, (0, 0), .int 0), (.istore_n 3, 1, (0, 0), .null)] (G := True) (c' := (4, [some (.ref 7), some (.int a1), some (.int 0), some (.int 0)], [], M)) (by decide +kernel) rfl trivial ?_
    obtain ⟨n, h⟩ := h
    exact P_Bike_lighterThan_4 (by decide) hΦ n _ _ _ h
  · refine Ct.go (n := 4) (E := [some (.ref 13), some (.int a1), none, none]) (by decide +kernel) (by simp [Value.category]) rfl ?_
    refine WP.blk [(.iconst 0, 1, (0, 0), .int 0), (.istore_n 2, 1, (0, 0), .null), (.iconst 0, 1, (0, 0), .int 0), (.istore_n 3, 1, (0, 0), .null)] (G := True) (c' := (4, [some (.ref 13), some (.int a1), some (.int 0), some (.int 0)], [], M)) (by decide +kernel) rfl trivial ?_
    obtain ⟨n, h⟩ := h
    exact P_Bike_lighterThan_4 (by decide) hΦ n _ _ _ h
/-- GearRoad$Bike.alike(I)I -/
def D_Bike_alike_35 (k : Nat) (M : Mm) (Φ : Int32 → Prop) (rec_4 : Int32 × Int32 × Int32 → Prop) : Int32 × Int32 × Int32 → Prop
  | (x1, x2, x3) => rec_4 (x1, x2, (x3 + 1))
def D_Bike_alike_4 (k : Nat) (M : Mm) (Φ : Int32 → Prop) (rec_4 : Int32 × Int32 × Int32 → Prop) : Int32 × Int32 × Int32 → Prop
  | (x1, x2, x3) => ((18 ≤ x3 → Φ x2) ∧ (¬ (18 ≤ x3) → ((x3 = x1 → D_Bike_alike_35 k M Φ rec_4 (x1, x2, x3)) ∧ (¬ (x3 = x1) → S_Bike_hasGear k M x3 (fun r6 => ((r6 = 0 → D_Bike_alike_35 k M Φ rec_4 (x1, x2, x3)) ∧ (¬ (r6 = 0) → S_Bike_compareGears k M x3 x1 (fun r8 => ((r8 = 0 → D_Bike_alike_35 k M Φ rec_4 (x1, (x2 + 1), x3)) ∧ (¬ (r8 = 0) → D_Bike_alike_35 k M Φ rec_4 (x1, x2, x3)))))))))))
def S_Bike_alike (k : Nat) (M : Mm) (a1 : Int32) (Φ : Int32 → Prop) : Prop := ∃ n, lp (D_Bike_alike_4 k M Φ) n (a1, 0, 0)
set_option maxRecDepth 100000 in
set_option maxHeartbeats 4000000 in
theorem L_Bike_alike_35 {d : Nat} {Post : Option Value → Mm → Prop} {k : Nat} {M : Mm} {rec_4 : Int32 × Int32 × Int32 → Prop} {Φ : Int32 → Prop} (hk : k = 7 ∨ k = 13) (hΦ : ∀ r, Φ r → Post (some (.int r)) M) (hrec_4 : ∀ (x1 : Int32) (x2 : Int32) (x3 : Int32), rec_4 (x1, x2, x3) → WP (Ct (d + 3)) 103 Post (4, [some (.ref k), some (.int x1), some (.int x2), some (.int x3)], [], M)) : ∀ (x1 : Int32) (x2 : Int32) (x3 : Int32), D_Bike_alike_35 k M Φ rec_4 (x1, x2, x3) → WP (Ct (d + 3)) 103 Post (35, [some (.ref k), some (.int x1), some (.int x2), some (.int x3)], [], M) := by
  rcases hk with rfl | rfl
  · intro x1 x2 x3 h
    replace h : rec_4 (x1, x2, (x3 + 1)) := h
    refine WP.blk [(.iinc 3 1, 3, (0, 0), .int 1), (.goto (-34), 3, (4, 0), .null)] (G := True) (c' := (4, [some (.ref 7), some (.int x1), some (.int x2), some (.int (x3 + 1))], [], M)) (by decide +kernel) rfl trivial ?_
    exact hrec_4 _ _ _ h
  · intro x1 x2 x3 h
    replace h : rec_4 (x1, x2, (x3 + 1)) := h
    refine WP.blk [(.iinc 3 1, 3, (0, 0), .int 1), (.goto (-34), 3, (4, 0), .null)] (G := True) (c' := (4, [some (.ref 13), some (.int x1), some (.int x2), some (.int (x3 + 1))], [], M)) (by decide +kernel) rfl trivial ?_
    exact hrec_4 _ _ _ h
set_option maxRecDepth 100000 in
set_option maxHeartbeats 4000000 in
theorem L_Bike_alike_4 {d : Nat} {Post : Option Value → Mm → Prop} {k : Nat} {M : Mm} {rec_4 : Int32 × Int32 × Int32 → Prop} {Φ : Int32 → Prop} (hk : k = 7 ∨ k = 13) (hΦ : ∀ r, Φ r → Post (some (.int r)) M) (hrec_4 : ∀ (x1 : Int32) (x2 : Int32) (x3 : Int32), rec_4 (x1, x2, x3) → WP (Ct (d + 3)) 103 Post (4, [some (.ref k), some (.int x1), some (.int x2), some (.int x3)], [], M)) : ∀ (x1 : Int32) (x2 : Int32) (x3 : Int32), D_Bike_alike_4 k M Φ rec_4 (x1, x2, x3) → WP (Ct (d + 3)) 103 Post (4, [some (.ref k), some (.int x1), some (.int x2), some (.int x3)], [], M) := by
  rcases hk with rfl | rfl
  · intro x1 x2 x3 h
    replace h : ((18 ≤ x3 → Φ x2) ∧ (¬ (18 ≤ x3) → ((x3 = x1 → D_Bike_alike_35 7 M Φ rec_4 (x1, x2, x3)) ∧ (¬ (x3 = x1) → S_Bike_hasGear 7 M x3 (fun r6 => ((r6 = 0 → D_Bike_alike_35 7 M Φ rec_4 (x1, x2, x3)) ∧ (¬ (r6 = 0) → S_Bike_compareGears 7 M x3 x1 (fun r8 => ((r8 = 0 → D_Bike_alike_35 7 M Φ rec_4 (x1, (x2 + 1), x3)) ∧ (¬ (r8 = 0) → D_Bike_alike_35 7 M Φ rec_4 (x1, x2, x3))))))))))) := h
    refine WP.blk [(.iload_n 3, 1, (0, 0), .null), (.bipush 18, 2, (0, 0), .int 18)] (G := True) (c' := (7, [some (.ref 7), some (.int x1), some (.int x2), some (.int x3)], [.int 18, .int x3], M)) (by decide +kernel) rfl trivial ?_
    refine WP.br (.if_icmp .ge 34, 3, (41, 0), .null) (by decide +kernel) rfl (fun c4 => ?_) (fun c4 => ?_)
    · replace h := h.1 c4
      refine WP.blk [(.iload_n 2, 1, (0, 0), .null)] (G := True) (c' := (42, [some (.ref 7), some (.int x1), some (.int x2), some (.int x3)], [.int x2], M)) (by decide +kernel) rfl trivial ?_
      exact WP.ret (.ireturn, 1, (0, 0), .null) (rk := 1) (by decide +kernel) (by decide +kernel) rfl trivial (hΦ _ h)
    · replace h := h.2 c4
      refine WP.blk [(.iload_n 3, 1, (0, 0), .null), (.iload_n 1, 1, (0, 0), .null)] (G := True) (c' := (12, [some (.ref 7), some (.int x1), some (.int x2), some (.int x3)], [.int x1, .int x3], M)) (by decide +kernel) rfl trivial ?_
      refine WP.br (.if_icmp .eq 23, 3, (35, 0), .null) (by decide +kernel) rfl (fun c5 => ?_) (fun c5 => ?_)
      · replace h := h.1 c5
        exact L_Bike_alike_35 (by decide) hΦ hrec_4 _ _ _ h
      · replace h := h.2 c5
        refine WP.blk [(.aload_n 0, 1, (0, 0), .null), (.iload_n 3, 1, (0, 0), .null)] (G := True) (c' := (17, [some (.ref 7), some (.int x1), some (.int x2), some (.int x3)], [.int x3, .ref 7], M)) (by decide +kernel) rfl trivial ?_
        refine WP.call (.invokevirtual 73, 3, (48, 2), .retAddr 1) (by decide +kernel) rfl (sp_Bike_hasGear (d := d + 0) (by decide) h (fun r6 h => ?_))
        show WP (Ct (d + 3)) 103 Post (20, [some (.ref 7), some (.int x1), some (.int x2), some (.int x3)], [.int r6], M)
        refine WP.br (.ifCond .eq 15, 3, (35, 0), .null) (by decide +kernel) rfl (fun c7 => ?_) (fun c7 => ?_)
        · replace h := h.1 c7
          exact L_Bike_alike_35 (by decide) hΦ hrec_4 _ _ _ h
        · replace h := h.2 c7
          refine WP.blk [(.aload_n 0, 1, (0, 0), .null), (.iload_n 3, 1, (0, 0), .null), (.iload_n 1, 1, (0, 0), .null)] (G := True) (c' := (26, [some (.ref 7), some (.int x1), some (.int x2), some (.int x3)], [.int x1, .int x3, .ref 7], M)) (by decide +kernel) rfl trivial ?_
          refine WP.call (.invokevirtual 137, 3, (102, 3), .retAddr 1) (by decide +kernel) rfl (sp_Bike_compareGears (d := d + 1) (by decide) h (fun r8 h => ?_))
          show WP (Ct (d + 3)) 103 Post (29, [some (.ref 7), some (.int x1), some (.int x2), some (.int x3)], [.int r8], M)
          refine WP.br (.ifCond .ne 6, 3, (35, 0), .null) (by decide +kernel) rfl (fun c9 => ?_) (fun c9 => ?_)
          · replace h := h.2 c9
            exact L_Bike_alike_35 (by decide) hΦ hrec_4 _ _ _ h
          · replace h := h.1 (Classical.not_not.mp c9)
            refine WP.blk [(.iinc 2 1, 3, (0, 0), .int 1)] (G := True) (c' := (35, [some (.ref 7), some (.int x1), some (.int (x2 + 1)), some (.int x3)], [], M)) (by decide +kernel) rfl trivial ?_
            exact L_Bike_alike_35 (by decide) hΦ hrec_4 _ _ _ h
  · intro x1 x2 x3 h
    replace h : ((18 ≤ x3 → Φ x2) ∧ (¬ (18 ≤ x3) → ((x3 = x1 → D_Bike_alike_35 13 M Φ rec_4 (x1, x2, x3)) ∧ (¬ (x3 = x1) → S_Bike_hasGear 13 M x3 (fun r6 => ((r6 = 0 → D_Bike_alike_35 13 M Φ rec_4 (x1, x2, x3)) ∧ (¬ (r6 = 0) → S_Bike_compareGears 13 M x3 x1 (fun r8 => ((r8 = 0 → D_Bike_alike_35 13 M Φ rec_4 (x1, (x2 + 1), x3)) ∧ (¬ (r8 = 0) → D_Bike_alike_35 13 M Φ rec_4 (x1, x2, x3))))))))))) := h
    refine WP.blk [(.iload_n 3, 1, (0, 0), .null), (.bipush 18, 2, (0, 0), .int 18)] (G := True) (c' := (7, [some (.ref 13), some (.int x1), some (.int x2), some (.int x3)], [.int 18, .int x3], M)) (by decide +kernel) rfl trivial ?_
    refine WP.br (.if_icmp .ge 34, 3, (41, 0), .null) (by decide +kernel) rfl (fun c4 => ?_) (fun c4 => ?_)
    · replace h := h.1 c4
      refine WP.blk [(.iload_n 2, 1, (0, 0), .null)] (G := True) (c' := (42, [some (.ref 13), some (.int x1), some (.int x2), some (.int x3)], [.int x2], M)) (by decide +kernel) rfl trivial ?_
      exact WP.ret (.ireturn, 1, (0, 0), .null) (rk := 1) (by decide +kernel) (by decide +kernel) rfl trivial (hΦ _ h)
    · replace h := h.2 c4
      refine WP.blk [(.iload_n 3, 1, (0, 0), .null), (.iload_n 1, 1, (0, 0), .null)] (G := True) (c' := (12, [some (.ref 13), some (.int x1), some (.int x2), some (.int x3)], [.int x1, .int x3], M)) (by decide +kernel) rfl trivial ?_
      refine WP.br (.if_icmp .eq 23, 3, (35, 0), .null) (by decide +kernel) rfl (fun c5 => ?_) (fun c5 => ?_)
      · replace h := h.1 c5
        exact L_Bike_alike_35 (by decide) hΦ hrec_4 _ _ _ h
      · replace h := h.2 c5
        refine WP.blk [(.aload_n 0, 1, (0, 0), .null), (.iload_n 3, 1, (0, 0), .null)] (G := True) (c' := (17, [some (.ref 13), some (.int x1), some (.int x2), some (.int x3)], [.int x3, .ref 13], M)) (by decide +kernel) rfl trivial ?_
        refine WP.call (.invokevirtual 73, 3, (48, 2), .retAddr 1) (by decide +kernel) rfl (sp_Bike_hasGear (d := d + 0) (by decide) h (fun r6 h => ?_))
        show WP (Ct (d + 3)) 103 Post (20, [some (.ref 13), some (.int x1), some (.int x2), some (.int x3)], [.int r6], M)
        refine WP.br (.ifCond .eq 15, 3, (35, 0), .null) (by decide +kernel) rfl (fun c7 => ?_) (fun c7 => ?_)
        · replace h := h.1 c7
          exact L_Bike_alike_35 (by decide) hΦ hrec_4 _ _ _ h
        · replace h := h.2 c7
          refine WP.blk [(.aload_n 0, 1, (0, 0), .null), (.iload_n 3, 1, (0, 0), .null), (.iload_n 1, 1, (0, 0), .null)] (G := True) (c' := (26, [some (.ref 13), some (.int x1), some (.int x2), some (.int x3)], [.int x1, .int x3, .ref 13], M)) (by decide +kernel) rfl trivial ?_
          refine WP.call (.invokevirtual 137, 3, (102, 3), .retAddr 1) (by decide +kernel) rfl (sp_Bike_compareGears (d := d + 1) (by decide) h (fun r8 h => ?_))
          show WP (Ct (d + 3)) 103 Post (29, [some (.ref 13), some (.int x1), some (.int x2), some (.int x3)], [.int r8], M)
          refine WP.br (.ifCond .ne 6, 3, (35, 0), .null) (by decide +kernel) rfl (fun c9 => ?_) (fun c9 => ?_)
          · replace h := h.2 c9
            exact L_Bike_alike_35 (by decide) hΦ hrec_4 _ _ _ h
          · replace h := h.1 (Classical.not_not.mp c9)
            refine WP.blk [(.iinc 2 1, 3, (0, 0), .int 1)] (G := True) (c' := (35, [some (.ref 13), some (.int x1), some (.int (x2 + 1)), some (.int x3)], [], M)) (by decide +kernel) rfl trivial ?_
            exact L_Bike_alike_35 (by decide) hΦ hrec_4 _ _ _ h
theorem P_Bike_alike_4 {d : Nat} {Post : Option Value → Mm → Prop} {k : Nat} {M : Mm} {Φ : Int32 → Prop} (hk : k = 7 ∨ k = 13) (hΦ : ∀ r, Φ r → Post (some (.int r)) M) : ∀ (n : Nat) (x1 : Int32) (x2 : Int32) (x3 : Int32), lp (D_Bike_alike_4 k M Φ) n (x1, x2, x3) → WP (Ct (d + 3)) 103 Post (4, [some (.ref k), some (.int x1), some (.int x2), some (.int x3)], [], M)
  | 0, x1, x2, x3, h => absurd h (by simp [lp])
  | n + 1, x1, x2, x3, h => L_Bike_alike_4 hk hΦ (P_Bike_alike_4 hk hΦ n) x1 x2 x3 h
set_option maxRecDepth 100000 in
set_option maxHeartbeats 4000000 in
theorem sp_Bike_alike {d : Nat} {Post : Option Value → Mm → Prop} {k : Nat} {M : Mm} {a1 : Int32} {Φ : Int32 → Prop} (hk : k = 7 ∨ k = 13) (h : S_Bike_alike k M a1 Φ) (hΦ : ∀ r, Φ r → Post (some (.int r)) M) : Ct (d + 4) 103 [.ref k, .int a1] M Post := by
  rcases hk with rfl | rfl
  · refine Ct.go (n := 4) (E := [some (.ref 7), some (.int a1), none, none]) (by decide +kernel) (by simp [Value.category]) rfl ?_
    refine WP.blk [(.iconst 0, 1, (0, 0), .int 0), (.istore_n 2, 1, (0, 0), .null), (.iconst 0, 1, (0, 0), .int 0), (.istore_n 3, 1, (0, 0), .null)] (G := True) (c' := (4, [some (.ref 7), some (.int a1), some (.int 0), some (.int 0)], [], M)) (by decide +kernel) rfl trivial ?_
    obtain ⟨n, h⟩ := h
    exact P_Bike_alike_4 (by decide) hΦ n _ _ _ h
  · refine Ct.go (n := 4) (E := [some (.ref 13), some (.int a1), none, none]) (by decide +kernel) (by simp [Value.category]) rfl ?_
    refine WP.blk [(.iconst 0, 1, (0, 0), .int 0), (.istore_n 2, 1, (0, 0), .null), (.iconst 0, 1, (0, 0), .int 0), (.istore_n 3, 1, (0, 0), .null)] (G := True) (c' := (4, [some (.ref 13), some (.int a1), some (.int 0), some (.int 0)], [], M)) (by decide +kernel) rfl trivial ?_
    obtain ⟨n, h⟩ := h
    exact P_Bike_alike_4 (by decide) hΦ n _ _ _ h
/-- GearRoad$Bike.shareOf(II)I -/
def D_Bike_shareOf_98 (k : Nat) (M : Mm) (Φ : Int32 → Prop) (rec_54 : Int32 × Int32 × Int32 × Int32 × Int32 × Int32 → Prop) : Int32 × Int32 × Int32 × Int32 × Int32 × Int32 → Prop
  | (x1, x2, x3, x4, x5, x6) => rec_54 (x1, x2, x3, x4, x5, (x6 + 1))
def D_Bike_shareOf_54 (k : Nat) (M : Mm) (Φ : Int32 → Prop) (rec_54 : Int32 × Int32 × Int32 × Int32 × Int32 × Int32 → Prop) : Int32 × Int32 × Int32 × Int32 × Int32 × Int32 → Prop
  | (x1, x2, x3, x4, x5, x6) => (((M k 2) ≤ x6 → vp_in x1 6 ∧ ¬ x3 = 0 ∧ ((x4 ≤ x5 → Φ (((x2 * (M (k + 4) (Int32.toNatClampNeg x1))) / x3) + 0)) ∧ (¬ (x4 ≤ x5) → Φ (((x2 * (M (k + 4) (Int32.toNatClampNeg x1))) / x3) + 1)))) ∧ (¬ ((M k 2) ≤ x6) → vp_in x6 6 ∧ ¬ x3 = 0 ∧ ((x1 ≤ x6 → D_Bike_shareOf_98 k M Φ rec_54 (x1, x2, x3, (x4 - ((x2 * (M (k + 4) (Int32.toNatClampNeg x6))) / x3)), x5, x6)) ∧ (¬ (x1 ≤ x6) → vp_in x6 6 ∧ (((M (k + 4) (Int32.toNatClampNeg x6)) ≤ 0 → D_Bike_shareOf_98 k M Φ rec_54 (x1, x2, x3, (x4 - ((x2 * (M (k + 4) (Int32.toNatClampNeg x6))) / x3)), x5, x6)) ∧ (¬ ((M (k + 4) (Int32.toNatClampNeg x6)) ≤ 0) → D_Bike_shareOf_98 k M Φ rec_54 (x1, x2, x3, (x4 - ((x2 * (M (k + 4) (Int32.toNatClampNeg x6))) / x3)), (x5 + 1), x6)))))))
def D_Bike_shareOf_5 (k : Nat) (M : Mm) (Φ : Int32 → Prop) (rec_5 : Int32 × Int32 × Int32 × Int32 → Prop) : Int32 × Int32 × Int32 × Int32 → Prop
  | (x1, x2, x3, x4) => (((M k 2) ≤ x4 → ((x3 ≤ 0 → Φ 0) ∧ (¬ (x3 ≤ 0) → vp_in x1 6 ∧ (((M (k + 4) (Int32.toNatClampNeg x1)) = 0 → Φ 0) ∧ (¬ ((M (k + 4) (Int32.toNatClampNeg x1)) = 0) → ∃ n, lp (D_Bike_shareOf_54 k M Φ) n (x1, x2, x3, x2, 0, 0)))))) ∧ (¬ ((M k 2) ≤ x4) → vp_in x4 6 ∧ rec_5 (x1, x2, (x3 + (M (k + 4) (Int32.toNatClampNeg x4))), (x4 + 1))))
def S_Bike_shareOf (k : Nat) (M : Mm) (a1 : Int32) (a2 : Int32) (Φ : Int32 → Prop) : Prop := ∃ n, lp (D_Bike_shareOf_5 k M Φ) n (a1, a2, 0, 0)
set_option maxRecDepth 100000 in
set_option maxHeartbeats 4000000 in
theorem L_Bike_shareOf_98 {d : Nat} {Post : Option Value → Mm → Prop} {k : Nat} {M : Mm} {rec_54 : Int32 × Int32 × Int32 × Int32 × Int32 × Int32 → Prop} {Φ : Int32 → Prop} (hk : k = 7 ∨ k = 13) (hΦ : ∀ r, Φ r → Post (some (.int r)) M) (hrec_54 : ∀ (x1 : Int32) (x2 : Int32) (x3 : Int32) (x4 : Int32) (x5 : Int32) (x6 : Int32), rec_54 (x1, x2, x3, x4, x5, x6) → WP (Ct (d + 0)) 105 Post (54, [some (.ref k), some (.int x1), some (.int x2), some (.int x3), some (.int x4), some (.int x5), some (.int x6)], [], M)) : ∀ (x1 : Int32) (x2 : Int32) (x3 : Int32) (x4 : Int32) (x5 : Int32) (x6 : Int32), D_Bike_shareOf_98 k M Φ rec_54 (x1, x2, x3, x4, x5, x6) → WP (Ct (d + 0)) 105 Post (98, [some (.ref k), some (.int x1), some (.int x2), some (.int x3), some (.int x4), some (.int x5), some (.int x6)], [], M) := by
  rcases hk with rfl | rfl
  · intro x1 x2 x3 x4 x5 x6 h
    replace h : rec_54 (x1, x2, x3, x4, x5, (x6 + 1)) := h
    refine WP.blk [(.iinc 6 1, 3, (0, 0), .int 1), (.goto (-47), 3, (54, 0), .null)] (G := True) (c' := (54, [some (.ref 7), some (.int x1), some (.int x2), some (.int x3), some (.int x4), some (.int x5), some (.int (x6 + 1))], [], M)) (by decide +kernel) rfl trivial ?_
    exact hrec_54 _ _ _ _ _ _ h
  · intro x1 x2 x3 x4 x5 x6 h
    replace h : rec_54 (x1, x2, x3, x4, x5, (x6 + 1)) := h
    refine WP.blk [(.iinc 6 1, 3, (0, 0), .int 1), (.goto (-47), 3, (54, 0), .null)] (G := True) (c' := (54, [some (.ref 13), some (.int x1), some (.int x2), some (.int x3), some (.int x4), some (.int x5), some (.int (x6 + 1))], [], M)) (by decide +kernel) rfl trivial ?_
    exact hrec_54 _ _ _ _ _ _ h
set_option maxRecDepth 100000 in
set_option maxHeartbeats 4000000 in
theorem L_Bike_shareOf_54 {d : Nat} {Post : Option Value → Mm → Prop} {k : Nat} {M : Mm} {rec_54 : Int32 × Int32 × Int32 × Int32 × Int32 × Int32 → Prop} {Φ : Int32 → Prop} (hk : k = 7 ∨ k = 13) (hΦ : ∀ r, Φ r → Post (some (.int r)) M) (hrec_54 : ∀ (x1 : Int32) (x2 : Int32) (x3 : Int32) (x4 : Int32) (x5 : Int32) (x6 : Int32), rec_54 (x1, x2, x3, x4, x5, x6) → WP (Ct (d + 0)) 105 Post (54, [some (.ref k), some (.int x1), some (.int x2), some (.int x3), some (.int x4), some (.int x5), some (.int x6)], [], M)) : ∀ (x1 : Int32) (x2 : Int32) (x3 : Int32) (x4 : Int32) (x5 : Int32) (x6 : Int32), D_Bike_shareOf_54 k M Φ rec_54 (x1, x2, x3, x4, x5, x6) → WP (Ct (d + 0)) 105 Post (54, [some (.ref k), some (.int x1), some (.int x2), some (.int x3), some (.int x4), some (.int x5), some (.int x6)], [], M) := by
  rcases hk with rfl | rfl
  · intro x1 x2 x3 x4 x5 x6 h
    replace h : (((M 7 2) ≤ x6 → vp_in x1 6 ∧ ¬ x3 = 0 ∧ ((x4 ≤ x5 → Φ (((x2 * (M 11 (Int32.toNatClampNeg x1))) / x3) + 0)) ∧ (¬ (x4 ≤ x5) → Φ (((x2 * (M 11 (Int32.toNatClampNeg x1))) / x3) + 1)))) ∧ (¬ ((M 7 2) ≤ x6) → vp_in x6 6 ∧ ¬ x3 = 0 ∧ ((x1 ≤ x6 → D_Bike_shareOf_98 7 M Φ rec_54 (x1, x2, x3, (x4 - ((x2 * (M 11 (Int32.toNatClampNeg x6))) / x3)), x5, x6)) ∧ (¬ (x1 ≤ x6) → vp_in x6 6 ∧ (((M 11 (Int32.toNatClampNeg x6)) ≤ 0 → D_Bike_shareOf_98 7 M Φ rec_54 (x1, x2, x3, (x4 - ((x2 * (M 11 (Int32.toNatClampNeg x6))) / x3)), x5, x6)) ∧ (¬ ((M 11 (Int32.toNatClampNeg x6)) ≤ 0) → D_Bike_shareOf_98 7 M Φ rec_54 (x1, x2, x3, (x4 - ((x2 * (M 11 (Int32.toNatClampNeg x6))) / x3)), (x5 + 1), x6))))))) := h
    refine WP.blk [(.iload 6, 2, (0, 0), .null), (.aload_n 0, 1, (0, 0), .null), (.getfield 19, 3, (1, 2), .null)] (G := True) (c' := (60, [some (.ref 7), some (.int x1), some (.int x2), some (.int x3), some (.int x4), some (.int x5), some (.int x6)], [.int (M 7 2), .int x6], M)) (by decide +kernel) rfl trivial ?_
    refine WP.br (.if_icmp .ge 44, 3, (104, 0), .null) (by decide +kernel) rfl (fun c7 => ?_) (fun c7 => ?_)
    · replace h := h.1 c7
      refine WP.blk [(.iload_n 2, 1, (0, 0), .null), (.aload_n 0, 1, (0, 0), .null), (.getfield 50, 3, (1, 12), .null), (.iload_n 1, 1, (0, 0), .null), (.iaload, 1, (0, 0), .null), (.imul, 1, (0, 0), .null), (.iload_n 3, 1, (0, 0), .null), (.idiv, 1, (0, 0), .null), (.iload 5, 2, (0, 0), .null), (.iload 4, 2, (0, 0), .null)] (G := vp_in x1 6 ∧ ¬ x3 = 0 ∧ True) (c' := (118, [some (.ref 7), some (.int x1), some (.int x2), some (.int x3), some (.int x4), some (.int x5), some (.int x6)], [.int x4, .int x5, .int ((x2 * (M 11 (Int32.toNatClampNeg x1))) / x3)], M)) (by decide +kernel) rfl ⟨h.1, h.2.1, trivial⟩ ?_
      replace h := h.2.2
      refine WP.br (.if_icmp .ge 7, 3, (125, 0), .null) (by decide +kernel) rfl (fun c8 => ?_) (fun c8 => ?_)
      · replace h := h.1 c8
        refine WP.blk [(.iconst 0, 1, (0, 0), .int 0), (.iadd, 1, (0, 0), .null)] (G := True) (c' := (127, [some (.ref 7), some (.int x1), some (.int x2), some (.int x3), some (.int x4), some (.int x5), some (.int x6)], [.int (((x2 * (M 11 (Int32.toNatClampNeg x1))) / x3) + 0)], M)) (by decide +kernel) rfl trivial ?_
        exact WP.ret (.ireturn, 1, (0, 0), .null) (rk := 1) (by decide +kernel) (by decide +kernel) rfl trivial (hΦ _ h)
      · replace h := h.2 c8
        refine WP.blk [(.iconst 1, 1, (0, 0), .int 1), (.goto 4, 3, (126, 0), .null), (.iadd, 1, (0, 0), .null)] (G := True) (c' := (127, [some (.ref 7), some (.int x1), some (.int x2), some (.int x3), some (.int x4), some (.int x5), some (.int x6)], [.int (((x2 * (M 11 (Int32.toNatClampNeg x1))) / x3) + 1)], M)) (by decide +kernel) rfl trivial ?_
        exact WP.ret (.ireturn, 1, (0, 0), .null) (rk := 1) (by decide +kernel) (by decide +kernel) rfl trivial (hΦ _ h)
    · replace h := h.2 c7
      refine WP.blk [(.iload 4, 2, (0, 0), .null), (.iload_n 2, 1, (0, 0), .null), (.aload_n 0, 1, (0, 0), .null), (.getfield 50, 3, (1, 12), .null), (.iload 6, 2, (0, 0), .null), (.iaload, 1, (0, 0), .null), (.imul, 1, (0, 0), .null), (.iload_n 3, 1, (0, 0), .null), (.idiv, 1, (0, 0), .null), (.isub, 1, (0, 0), .null), (.istore 4, 2, (0, 0), .null), (.iload 6, 2, (0, 0), .null), (.iload_n 1, 1, (0, 0), .null)] (G := vp_in x6 6 ∧ ¬ x3 = 0 ∧ True) (c' := (82, [some (.ref 7), some (.int x1), some (.int x2), some (.int x3), some (.int (x4 - ((x2 * (M 11 (Int32.toNatClampNeg x6))) / x3))), some (.int x5), some (.int x6)], [.int x1, .int x6], M)) (by decide +kernel) rfl ⟨h.1, h.2.1, trivial⟩ ?_
      replace h := h.2.2
      refine WP.br (.if_icmp .ge 16, 3, (98, 0), .null) (by decide +kernel) rfl (fun c9 => ?_) (fun c9 => ?_)
      · replace h := h.1 c9
        exact L_Bike_shareOf_98 (by decide) hΦ hrec_54 _ _ _ _ _ _ h
      · replace h := h.2 c9
        refine WP.blk [(.aload_n 0, 1, (0, 0), .null), (.getfield 50, 3, (1, 12), .null), (.iload 6, 2, (0, 0), .null), (.iaload, 1, (0, 0), .null)] (G := vp_in x6 6 ∧ True) (c' := (92, [some (.ref 7), some (.int x1), some (.int x2), some (.int x3), some (.int (x4 - ((x2 * (M 11 (Int32.toNatClampNeg x6))) / x3))), some (.int x5), some (.int x6)], [.int (M 11 (Int32.toNatClampNeg x6))], M)) (by decide +kernel) rfl ⟨h.1, trivial⟩ ?_
        replace h := h.2
        refine WP.br (.ifCond .le 6, 3, (98, 0), .null) (by decide +kernel) rfl (fun c10 => ?_) (fun c10 => ?_)
        · replace h := h.1 c10
          exact L_Bike_shareOf_98 (by decide) hΦ hrec_54 _ _ _ _ _ _ h
        · replace h := h.2 c10
          refine WP.blk [(.iinc 5 1, 3, (0, 0), .int 1)] (G := True) (c' := (98, [some (.ref 7), some (.int x1), some (.int x2), some (.int x3), some (.int (x4 - ((x2 * (M 11 (Int32.toNatClampNeg x6))) / x3))), some (.int (x5 + 1)), some (.int x6)], [], M)) (by decide +kernel) rfl trivial ?_
          exact L_Bike_shareOf_98 (by decide) hΦ hrec_54 _ _ _ _ _ _ h
  · intro x1 x2 x3 x4 x5 x6 h
    replace h : (((M 13 2) ≤ x6 → vp_in x1 6 ∧ ¬ x3 = 0 ∧ ((x4 ≤ x5 → Φ (((x2 * (M 17 (Int32.toNatClampNeg x1))) / x3) + 0)) ∧ (¬ (x4 ≤ x5) → Φ (((x2 * (M 17 (Int32.toNatClampNeg x1))) / x3) + 1)))) ∧ (¬ ((M 13 2) ≤ x6) → vp_in x6 6 ∧ ¬ x3 = 0 ∧ ((x1 ≤ x6 → D_Bike_shareOf_98 13 M Φ rec_54 (x1, x2, x3, (x4 - ((x2 * (M 17 (Int32.toNatClampNeg x6))) / x3)), x5, x6)) ∧ (¬ (x1 ≤ x6) → vp_in x6 6 ∧ (((M 17 (Int32.toNatClampNeg x6)) ≤ 0 → D_Bike_shareOf_98 13 M Φ rec_54 (x1, x2, x3, (x4 - ((x2 * (M 17 (Int32.toNatClampNeg x6))) / x3)), x5, x6)) ∧ (¬ ((M 17 (Int32.toNatClampNeg x6)) ≤ 0) → D_Bike_shareOf_98 13 M Φ rec_54 (x1, x2, x3, (x4 - ((x2 * (M 17 (Int32.toNatClampNeg x6))) / x3)), (x5 + 1), x6))))))) := h
    refine WP.blk [(.iload 6, 2, (0, 0), .null), (.aload_n 0, 1, (0, 0), .null), (.getfield 19, 3, (1, 2), .null)] (G := True) (c' := (60, [some (.ref 13), some (.int x1), some (.int x2), some (.int x3), some (.int x4), some (.int x5), some (.int x6)], [.int (M 13 2), .int x6], M)) (by decide +kernel) rfl trivial ?_
    refine WP.br (.if_icmp .ge 44, 3, (104, 0), .null) (by decide +kernel) rfl (fun c7 => ?_) (fun c7 => ?_)
    · replace h := h.1 c7
      refine WP.blk [(.iload_n 2, 1, (0, 0), .null), (.aload_n 0, 1, (0, 0), .null), (.getfield 50, 3, (1, 12), .null), (.iload_n 1, 1, (0, 0), .null), (.iaload, 1, (0, 0), .null), (.imul, 1, (0, 0), .null), (.iload_n 3, 1, (0, 0), .null), (.idiv, 1, (0, 0), .null), (.iload 5, 2, (0, 0), .null), (.iload 4, 2, (0, 0), .null)] (G := vp_in x1 6 ∧ ¬ x3 = 0 ∧ True) (c' := (118, [some (.ref 13), some (.int x1), some (.int x2), some (.int x3), some (.int x4), some (.int x5), some (.int x6)], [.int x4, .int x5, .int ((x2 * (M 17 (Int32.toNatClampNeg x1))) / x3)], M)) (by decide +kernel) rfl ⟨h.1, h.2.1, trivial⟩ ?_
      replace h := h.2.2
      refine WP.br (.if_icmp .ge 7, 3, (125, 0), .null) (by decide +kernel) rfl (fun c8 => ?_) (fun c8 => ?_)
      · replace h := h.1 c8
        refine WP.blk [(.iconst 0, 1, (0, 0), .int 0), (.iadd, 1, (0, 0), .null)] (G := True) (c' := (127, [some (.ref 13), some (.int x1), some (.int x2), some (.int x3), some (.int x4), some (.int x5), some (.int x6)], [.int (((x2 * (M 17 (Int32.toNatClampNeg x1))) / x3) + 0)], M)) (by decide +kernel) rfl trivial ?_
        exact WP.ret (.ireturn, 1, (0, 0), .null) (rk := 1) (by decide +kernel) (by decide +kernel) rfl trivial (hΦ _ h)
      · replace h := h.2 c8
        refine WP.blk [(.iconst 1, 1, (0, 0), .int 1), (.goto 4, 3, (126, 0), .null), (.iadd, 1, (0, 0), .null)] (G := True) (c' := (127, [some (.ref 13), some (.int x1), some (.int x2), some (.int x3), some (.int x4), some (.int x5), some (.int x6)], [.int (((x2 * (M 17 (Int32.toNatClampNeg x1))) / x3) + 1)], M)) (by decide +kernel) rfl trivial ?_
        exact WP.ret (.ireturn, 1, (0, 0), .null) (rk := 1) (by decide +kernel) (by decide +kernel) rfl trivial (hΦ _ h)
    · replace h := h.2 c7
      refine WP.blk [(.iload 4, 2, (0, 0), .null), (.iload_n 2, 1, (0, 0), .null), (.aload_n 0, 1, (0, 0), .null), (.getfield 50, 3, (1, 12), .null), (.iload 6, 2, (0, 0), .null), (.iaload, 1, (0, 0), .null), (.imul, 1, (0, 0), .null), (.iload_n 3, 1, (0, 0), .null), (.idiv, 1, (0, 0), .null), (.isub, 1, (0, 0), .null), (.istore 4, 2, (0, 0), .null), (.iload 6, 2, (0, 0), .null), (.iload_n 1, 1, (0, 0), .null)] (G := vp_in x6 6 ∧ ¬ x3 = 0 ∧ True) (c' := (82, [some (.ref 13), some (.int x1), some (.int x2), some (.int x3), some (.int (x4 - ((x2 * (M 17 (Int32.toNatClampNeg x6))) / x3))), some (.int x5), some (.int x6)], [.int x1, .int x6], M)) (by decide +kernel) rfl ⟨h.1, h.2.1, trivial⟩ ?_
      replace h := h.2.2
      refine WP.br (.if_icmp .ge 16, 3, (98, 0), .null) (by decide +kernel) rfl (fun c9 => ?_) (fun c9 => ?_)
      · replace h := h.1 c9
        exact L_Bike_shareOf_98 (by decide) hΦ hrec_54 _ _ _ _ _ _ h
      · replace h := h.2 c9
        refine WP.blk [(.aload_n 0, 1, (0, 0), .null), (.getfield 50, 3, (1, 12), .null), (.iload 6, 2, (0, 0), .null), (.iaload, 1, (0, 0), .null)] (G := vp_in x6 6 ∧ True) (c' := (92, [some (.ref 13), some (.int x1), some (.int x2), some (.int x3), some (.int (x4 - ((x2 * (M 17 (Int32.toNatClampNeg x6))) / x3))), some (.int x5), some (.int x6)], [.int (M 17 (Int32.toNatClampNeg x6))], M)) (by decide +kernel) rfl ⟨h.1, trivial⟩ ?_
        replace h := h.2
        refine WP.br (.ifCond .le 6, 3, (98, 0), .null) (by decide +kernel) rfl (fun c10 => ?_) (fun c10 => ?_)
        · replace h := h.1 c10
          exact L_Bike_shareOf_98 (by decide) hΦ hrec_54 _ _ _ _ _ _ h
        · replace h := h.2 c10
          refine WP.blk [(.iinc 5 1, 3, (0, 0), .int 1)] (G := True) (c' := (98, [some (.ref 13), some (.int x1), some (.int x2), some (.int x3), some (.int (x4 - ((x2 * (M 17 (Int32.toNatClampNeg x6))) / x3))), some (.int (x5 + 1)), some (.int x6)], [], M)) (by decide +kernel) rfl trivial ?_
          exact L_Bike_shareOf_98 (by decide) hΦ hrec_54 _ _ _ _ _ _ h
theorem P_Bike_shareOf_54 {d : Nat} {Post : Option Value → Mm → Prop} {k : Nat} {M : Mm} {Φ : Int32 → Prop} (hk : k = 7 ∨ k = 13) (hΦ : ∀ r, Φ r → Post (some (.int r)) M) : ∀ (n : Nat) (x1 : Int32) (x2 : Int32) (x3 : Int32) (x4 : Int32) (x5 : Int32) (x6 : Int32), lp (D_Bike_shareOf_54 k M Φ) n (x1, x2, x3, x4, x5, x6) → WP (Ct (d + 0)) 105 Post (54, [some (.ref k), some (.int x1), some (.int x2), some (.int x3), some (.int x4), some (.int x5), some (.int x6)], [], M)
  | 0, x1, x2, x3, x4, x5, x6, h => absurd h (by simp [lp])
  | n + 1, x1, x2, x3, x4, x5, x6, h => L_Bike_shareOf_54 hk hΦ (P_Bike_shareOf_54 hk hΦ n) x1 x2 x3 x4 x5 x6 h
set_option maxRecDepth 100000 in
set_option maxHeartbeats 4000000 in
theorem L_Bike_shareOf_5 {d : Nat} {Post : Option Value → Mm → Prop} {k : Nat} {M : Mm} {rec_5 : Int32 × Int32 × Int32 × Int32 → Prop} {Φ : Int32 → Prop} (hk : k = 7 ∨ k = 13) (hΦ : ∀ r, Φ r → Post (some (.int r)) M) (hrec_5 : ∀ (x1 : Int32) (x2 : Int32) (x3 : Int32) (x4 : Int32), rec_5 (x1, x2, x3, x4) → WP (Ct (d + 0)) 105 Post (5, [some (.ref k), some (.int x1), some (.int x2), some (.int x3), some (.int x4), none, none], [], M)) : ∀ (x1 : Int32) (x2 : Int32) (x3 : Int32) (x4 : Int32), D_Bike_shareOf_5 k M Φ rec_5 (x1, x2, x3, x4) → WP (Ct (d + 0)) 105 Post (5, [some (.ref k), some (.int x1), some (.int x2), some (.int x3), some (.int x4), none, none], [], M) := by
  rcases hk with rfl | rfl
  · intro x1 x2 x3 x4 h
    replace h : (((M 7 2) ≤ x4 → ((x3 ≤ 0 → Φ 0) ∧ (¬ (x3 ≤ 0) → vp_in x1 6 ∧ (((M 11 (Int32.toNatClampNeg x1)) = 0 → Φ 0) ∧ (¬ ((M 11 (Int32.toNatClampNeg x1)) = 0) → ∃ n, lp (D_Bike_shareOf_54 7 M Φ) n (x1, x2, x3, x2, 0, 0)))))) ∧ (¬ ((M 7 2) ≤ x4) → vp_in x4 6 ∧ rec_5 (x1, x2, (x3 + (M 11 (Int32.toNatClampNeg x4))), (x4 + 1)))) := h
    refine WP.blk [(.iload 4, 2, (0, 0), .null), (.aload_n 0, 1, (0, 0), .null), (.getfield 19, 3, (1, 2), .null)] (G := True) (c' := (11, [some (.ref 7), some (.int x1), some (.int x2), some (.int x3), some (.int x4), none, none], [.int (M 7 2), .int x4], M)) (by decide +kernel) rfl trivial ?_
    refine WP.br (.if_icmp .ge 19, 3, (30, 0), .null) (by decide +kernel) rfl (fun c5 => ?_) (fun c5 => ?_)
    · replace h := h.1 c5
      refine WP.blk [(.iload_n 3, 1, (0, 0), .null)] (G := True) (c' := (31, [some (.ref 7), some (.int x1), some (.int x2), some (.int x3), some (.int x4), none, none], [.int x3], M)) (by decide +kernel) rfl trivial ?_
      refine WP.br (.ifCond .le 12, 3, (43, 0), .null) (by decide +kernel) rfl (fun c6 => ?_) (fun c6 => ?_)
      · replace h := h.1 c6
        refine WP.blk [(.iconst 0, 1, (0, 0), .int 0)] (G := True) (c' := (44, [some (.ref 7), some (.int x1), some (.int x2), some (.int x3), some (.int x4), none, none], [.int 0], M)) (by decide +kernel) rfl trivial ?_
        exact WP.ret (.ireturn, 1, (0, 0), .null) (rk := 1) (by decide +kernel) (by decide +kernel) rfl trivial (hΦ _ h)
      · replace h := h.2 c6
        refine WP.blk [(.aload_n 0, 1, (0, 0), .null), (.getfield 50, 3, (1, 12), .null), (.iload_n 1, 1, (0, 0), .null), (.iaload, 1, (0, 0), .null)] (G := vp_in x1 6 ∧ True) (c' := (40, [some (.ref 7), some (.int x1), some (.int x2), some (.int x3), some (.int x4), none, none], [.int (M 11 (Int32.toNatClampNeg x1))], M)) (by decide +kernel) rfl ⟨h.1, trivial⟩ ?_
        replace h := h.2
        refine WP.br (.ifCond .ne 5, 3, (45, 0), .null) (by decide +kernel) rfl (fun c7 => ?_) (fun c7 => ?_)
        · replace h := h.2 c7
          refine WP.blk [(.iload_n 2, 1, (0, 0), .null), (.istore 4, 2, (0, 0), .null), (.iconst 0, 1, (0, 0), .int 0), (.istore 5, 2, (0, 0), .null), (.iconst 0, 1, (0, 0), .int 0), (.istore 6, 2, (0, 0), .null)] (G := True) (c' := (54, [some (.ref 7), some (.int x1), some (.int x2), some (.int x3), some (.int x2), some (.int 0), some (.int 0)], [], M)) (by decide +kernel) rfl trivial ?_
          obtain ⟨n, h⟩ := h
          exact P_Bike_shareOf_54 (by decide) hΦ n _ _ _ _ _ _ h
        · replace h := h.1 (Classical.not_not.mp c7)
          refine WP.blk [(.iconst 0, 1, (0, 0), .int 0)] (G := True) (c' := (44, [some (.ref 7), some (.int x1), some (.int x2), some (.int x3), some (.int x4), none, none], [.int 0], M)) (by decide +kernel) rfl trivial ?_
          exact WP.ret (.ireturn, 1, (0, 0), .null) (rk := 1) (by decide +kernel) (by decide +kernel) rfl trivial (hΦ _ h)
    · replace h := h.2 c5
      refine WP.blk [(.iload_n 3, 1, (0, 0), .null), (.aload_n 0, 1, (0, 0), .null), (.getfield 50, 3, (1, 12), .null), (.iload 4, 2, (0, 0), .null), (.iaload, 1, (0, 0), .null), (.iadd, 1, (0, 0), .null), (.istore_n 3, 1, (0, 0), .null), (.iinc 4 1, 3, (0, 0), .int 1), (.goto (-22), 3, (5, 0), .null)] (G := vp_in x4 6 ∧ True) (c' := (5, [some (.ref 7), some (.int x1), some (.int x2), some (.int (x3 + (M 11 (Int32.toNatClampNeg x4)))), some (.int (x4 + 1)), none, none], [], M)) (by decide +kernel) rfl ⟨h.1, trivial⟩ ?_
      replace h := h.2
      exact hrec_5 _ _ _ _ h
  · intro x1 x2 x3 x4 h
    replace h : (((M 13 2) ≤ x4 → ((x3 ≤ 0 → Φ 0) ∧ (¬ (x3 ≤ 0) → vp_in x1 6 ∧ (((M 17 (Int32.toNatClampNeg x1)) = 0 → Φ 0) ∧ (¬ ((M 17 (Int32.toNatClampNeg x1)) = 0) → ∃ n, lp (D_Bike_shareOf_54 13 M Φ) n (x1, x2, x3, x2, 0, 0)))))) ∧ (¬ ((M 13 2) ≤ x4) → vp_in x4 6 ∧ rec_5 (x1, x2, (x3 + (M 17 (Int32.toNatClampNeg x4))), (x4 + 1)))) := h
    refine WP.blk [(.iload 4, 2, (0, 0), .null), (.aload_n 0, 1, (0, 0), .null), (.getfield 19, 3, (1, 2), .null)] (G := True) (c' := (11, [some (.ref 13), some (.int x1), some (.int x2), some (.int x3), some (.int x4), none, none], [.int (M 13 2), .int x4], M)) (by decide +kernel) rfl trivial ?_
    refine WP.br (.if_icmp .ge 19, 3, (30, 0), .null) (by decide +kernel) rfl (fun c5 => ?_) (fun c5 => ?_)
    · replace h := h.1 c5
      refine WP.blk [(.iload_n 3, 1, (0, 0), .null)] (G := True) (c' := (31, [some (.ref 13), some (.int x1), some (.int x2), some (.int x3), some (.int x4), none, none], [.int x3], M)) (by decide +kernel) rfl trivial ?_
      refine WP.br (.ifCond .le 12, 3, (43, 0), .null) (by decide +kernel) rfl (fun c6 => ?_) (fun c6 => ?_)
      · replace h := h.1 c6
        refine WP.blk [(.iconst 0, 1, (0, 0), .int 0)] (G := True) (c' := (44, [some (.ref 13), some (.int x1), some (.int x2), some (.int x3), some (.int x4), none, none], [.int 0], M)) (by decide +kernel) rfl trivial ?_
        exact WP.ret (.ireturn, 1, (0, 0), .null) (rk := 1) (by decide +kernel) (by decide +kernel) rfl trivial (hΦ _ h)
      · replace h := h.2 c6
        refine WP.blk [(.aload_n 0, 1, (0, 0), .null), (.getfield 50, 3, (1, 12), .null), (.iload_n 1, 1, (0, 0), .null), (.iaload, 1, (0, 0), .null)] (G := vp_in x1 6 ∧ True) (c' := (40, [some (.ref 13), some (.int x1), some (.int x2), some (.int x3), some (.int x4), none, none], [.int (M 17 (Int32.toNatClampNeg x1))], M)) (by decide +kernel) rfl ⟨h.1, trivial⟩ ?_
        replace h := h.2
        refine WP.br (.ifCond .ne 5, 3, (45, 0), .null) (by decide +kernel) rfl (fun c7 => ?_) (fun c7 => ?_)
        · replace h := h.2 c7
          refine WP.blk [(.iload_n 2, 1, (0, 0), .null), (.istore 4, 2, (0, 0), .null), (.iconst 0, 1, (0, 0), .int 0), (.istore 5, 2, (0, 0), .null), (.iconst 0, 1, (0, 0), .int 0), (.istore 6, 2, (0, 0), .null)] (G := True) (c' := (54, [some (.ref 13), some (.int x1), some (.int x2), some (.int x3), some (.int x2), some (.int 0), some (.int 0)], [], M)) (by decide +kernel) rfl trivial ?_
          obtain ⟨n, h⟩ := h
          exact P_Bike_shareOf_54 (by decide) hΦ n _ _ _ _ _ _ h
        · replace h := h.1 (Classical.not_not.mp c7)
          refine WP.blk [(.iconst 0, 1, (0, 0), .int 0)] (G := True) (c' := (44, [some (.ref 13), some (.int x1), some (.int x2), some (.int x3), some (.int x4), none, none], [.int 0], M)) (by decide +kernel) rfl trivial ?_
          exact WP.ret (.ireturn, 1, (0, 0), .null) (rk := 1) (by decide +kernel) (by decide +kernel) rfl trivial (hΦ _ h)
    · replace h := h.2 c5
      refine WP.blk [(.iload_n 3, 1, (0, 0), .null), (.aload_n 0, 1, (0, 0), .null), (.getfield 50, 3, (1, 12), .null), (.iload 4, 2, (0, 0), .null), (.iaload, 1, (0, 0), .null), (.iadd, 1, (0, 0), .null), (.istore_n 3, 1, (0, 0), .null), (.iinc 4 1, 3, (0, 0), .int 1), (.goto (-22), 3, (5, 0), .null)] (G := vp_in x4 6 ∧ True) (c' := (5, [some (.ref 13), some (.int x1), some (.int x2), some (.int (x3 + (M 17 (Int32.toNatClampNeg x4)))), some (.int (x4 + 1)), none, none], [], M)) (by decide +kernel) rfl ⟨h.1, trivial⟩ ?_
      replace h := h.2
      exact hrec_5 _ _ _ _ h
theorem P_Bike_shareOf_5 {d : Nat} {Post : Option Value → Mm → Prop} {k : Nat} {M : Mm} {Φ : Int32 → Prop} (hk : k = 7 ∨ k = 13) (hΦ : ∀ r, Φ r → Post (some (.int r)) M) : ∀ (n : Nat) (x1 : Int32) (x2 : Int32) (x3 : Int32) (x4 : Int32), lp (D_Bike_shareOf_5 k M Φ) n (x1, x2, x3, x4) → WP (Ct (d + 0)) 105 Post (5, [some (.ref k), some (.int x1), some (.int x2), some (.int x3), some (.int x4), none, none], [], M)
  | 0, x1, x2, x3, x4, h => absurd h (by simp [lp])
  | n + 1, x1, x2, x3, x4, h => L_Bike_shareOf_5 hk hΦ (P_Bike_shareOf_5 hk hΦ n) x1 x2 x3 x4 h
set_option maxRecDepth 100000 in
set_option maxHeartbeats 4000000 in
theorem sp_Bike_shareOf {d : Nat} {Post : Option Value → Mm → Prop} {k : Nat} {M : Mm} {a1 : Int32} {a2 : Int32} {Φ : Int32 → Prop} (hk : k = 7 ∨ k = 13) (h : S_Bike_shareOf k M a1 a2 Φ) (hΦ : ∀ r, Φ r → Post (some (.int r)) M) : Ct (d + 1) 105 [.ref k, .int a1, .int a2] M Post := by
  rcases hk with rfl | rfl
  · refine Ct.go (n := 7) (E := [some (.ref 7), some (.int a1), some (.int a2), none, none, none, none]) (by decide +kernel) (by simp [Value.category]) rfl ?_
    refine WP.blk [(.iconst 0, 1, (0, 0), .int 0), (.istore_n 3, 1, (0, 0), .null), (.iconst 0, 1, (0, 0), .int 0), (.istore 4, 2, (0, 0), .null)] (G := True) (c' := (5, [some (.ref 7), some (.int a1), some (.int a2), some (.int 0), some (.int 0), none, none], [], M)) (by decide +kernel) rfl trivial ?_
    obtain ⟨n, h⟩ := h
    exact P_Bike_shareOf_5 (by decide) hΦ n _ _ _ _ h
  · refine Ct.go (n := 7) (E := [some (.ref 13), some (.int a1), some (.int a2), none, none, none, none]) (by decide +kernel) (by simp [Value.category]) rfl ?_
    refine WP.blk [(.iconst 0, 1, (0, 0), .int 0), (.istore_n 3, 1, (0, 0), .null), (.iconst 0, 1, (0, 0), .int 0), (.istore 4, 2, (0, 0), .null)] (G := True) (c' := (5, [some (.ref 13), some (.int a1), some (.int a2), some (.int 0), some (.int 0), none, none], [], M)) (by decide +kernel) rfl trivial ?_
    obtain ⟨n, h⟩ := h
    exact P_Bike_shareOf_5 (by decide) hΦ n _ _ _ _ h
