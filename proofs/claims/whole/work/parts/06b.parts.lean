/-- GearRoad$Acts.keep(LGearRoad$Bike;)V -/
def S_Acts_keep (M : Mm) (Φ : Mm → Prop) : Prop := vp_in (((M 32 2) * 17) + 0) 408 ∧ (∀ M1, M1 = mu M 33 (Int32.toNatClampNeg (((M 32 2) * 17) + 0)) (M 7 4) → vp_in (((M 32 2) * 17) + 1) 408 ∧ (∀ M2, M2 = mu M1 33 (Int32.toNatClampNeg (((M 32 2) * 17) + 1)) (M1 7 5) → vp_in (((M 32 2) * 17) + 2) 408 ∧ (∀ M3, M3 = mu M2 33 (Int32.toNatClampNeg (((M 32 2) * 17) + 2)) (M2 7 6) → vp_in (((M 32 2) * 17) + 3) 408 ∧ (∀ M4, M4 = mu M3 33 (Int32.toNatClampNeg (((M 32 2) * 17) + 3)) (M3 7 7) → vp_in (((M 32 2) * 17) + 4) 408 ∧ (∀ M5, M5 = mu M4 33 (Int32.toNatClampNeg (((M 32 2) * 17) + 4)) (M4 7 8) → cpOk 0 (((M 32 2) * 17) + 5) 6 6 408 ∧ (∀ M6, M6 = mcp M5 12 33 (Int32.toNatClampNeg 0) (Int32.toNatClampNeg (((M 32 2) * 17) + 5)) (Int32.toNatClampNeg 6) → cpOk 0 (((M 32 2) * 17) + 11) 6 6 408 ∧ (∀ M7, M7 = mcp M6 11 33 (Int32.toNatClampNeg 0) (Int32.toNatClampNeg (((M 32 2) * 17) + 11)) (Int32.toNatClampNeg 6) → (∀ M8, M8 = mu M7 32 2 (irm ((M7 32 2) + 1) 24) → S_Math_min M8 24 ((M8 32 1) + 1) (fun r9 => (∀ M10, M10 = mu M8 32 1 r9 → Φ M10))))))))))
set_option maxRecDepth 100000 in
set_option maxHeartbeats 4000000 in
theorem sp_Acts_keep {d : Nat} {Post : Option Value → Mm → Prop} {M : Mm} {Φ : Mm → Prop} (h : S_Acts_keep M Φ) (hΦ : ∀ M1, Φ M1 → Post none M1) : Ct (d + 2) 53 [.ref 32, .ref 7] M Post := by
  refine Ct.go (n := 3) (E := [some (.ref 32), some (.ref 7), none]) (by decide +kernel) (by simp [Value.category]) rfl ?_
  refine WP.blk [(.aload_n 0, 1, (0, 0), .null), (.getfield 19, 3, (0, 2), .null), (.bipush 17, 2, (0, 0), .int 17), (.imul, 1, (0, 0), .null), (.istore_n 2, 1, (0, 0), .null), (.aload_n 0, 1, (0, 0), .null), (.getfield 11, 3, (0, 0), .null), (.iload_n 2, 1, (0, 0), .null), (.iconst 0, 1, (0, 0), .int 0), (.iadd, 1, (0, 0), .null), (.aload_n 1, 1, (0, 0), .null), (.getfield 22, 3, (1, 4), .null), (.iastore, 1, (0, 0), .null)] (G := vp_in (((M 32 2) * 17) + 0) 408 ∧ True) (c' := (20, [some (.ref 32), some (.ref 7), some (.int ((M 32 2) * 17))], [], (mu M 33 (Int32.toNatClampNeg (((M 32 2) * 17) + 0)) (M 7 4)))) (by decide +kernel) rfl ⟨h.1, trivial⟩ ?_
  replace h := h.2
  replace h := h (mu M 33 (Int32.toNatClampNeg (((M 32 2) * 17) + 0)) (M 7 4)) rfl
  generalize (mu M 33 (Int32.toNatClampNeg (((M 32 2) * 17) + 0)) (M 7 4)) = M1 at h ⊢
  refine WP.blk [(.aload_n 0, 1, (0, 0), .null), (.getfield 11, 3, (0, 0), .null), (.iload_n 2, 1, (0, 0), .null), (.iconst 1, 1, (0, 0), .int 1), (.iadd, 1, (0, 0), .null), (.aload_n 1, 1, (0, 0), .null), (.getfield 27, 3, (1, 5), .null), (.iastore, 1, (0, 0), .null)] (G := vp_in (((M 32 2) * 17) + 1) 408 ∧ True) (c' := (32, [some (.ref 32), some (.ref 7), some (.int ((M 32 2) * 17))], [], (mu M1 33 (Int32.toNatClampNeg (((M 32 2) * 17) + 1)) (M1 7 5)))) (by decide +kernel) rfl ⟨h.1, trivial⟩ ?_
  replace h := h.2
  replace h := h (mu M1 33 (Int32.toNatClampNeg (((M 32 2) * 17) + 1)) (M1 7 5)) rfl
  generalize (mu M1 33 (Int32.toNatClampNeg (((M 32 2) * 17) + 1)) (M1 7 5)) = M2 at h ⊢
  refine WP.blk [(.aload_n 0, 1, (0, 0), .null), (.getfield 11, 3, (0, 0), .null), (.iload_n 2, 1, (0, 0), .null), (.iconst 2, 1, (0, 0), .int 2), (.iadd, 1, (0, 0), .null), (.aload_n 1, 1, (0, 0), .null), (.getfield 30, 3, (1, 6), .null), (.iastore, 1, (0, 0), .null)] (G := vp_in (((M 32 2) * 17) + 2) 408 ∧ True) (c' := (44, [some (.ref 32), some (.ref 7), some (.int ((M 32 2) * 17))], [], (mu M2 33 (Int32.toNatClampNeg (((M 32 2) * 17) + 2)) (M2 7 6)))) (by decide +kernel) rfl ⟨h.1, trivial⟩ ?_
  replace h := h.2
  replace h := h (mu M2 33 (Int32.toNatClampNeg (((M 32 2) * 17) + 2)) (M2 7 6)) rfl
  generalize (mu M2 33 (Int32.toNatClampNeg (((M 32 2) * 17) + 2)) (M2 7 6)) = M3 at h ⊢
  refine WP.blk [(.aload_n 0, 1, (0, 0), .null), (.getfield 11, 3, (0, 0), .null), (.iload_n 2, 1, (0, 0), .null), (.iconst 3, 1, (0, 0), .int 3), (.iadd, 1, (0, 0), .null), (.aload_n 1, 1, (0, 0), .null), (.getfield 33, 3, (1, 7), .null), (.iastore, 1, (0, 0), .null)] (G := vp_in (((M 32 2) * 17) + 3) 408 ∧ True) (c' := (56, [some (.ref 32), some (.ref 7), some (.int ((M 32 2) * 17))], [], (mu M3 33 (Int32.toNatClampNeg (((M 32 2) * 17) + 3)) (M3 7 7)))) (by decide +kernel) rfl ⟨h.1, trivial⟩ ?_
  replace h := h.2
  replace h := h (mu M3 33 (Int32.toNatClampNeg (((M 32 2) * 17) + 3)) (M3 7 7)) rfl
  generalize (mu M3 33 (Int32.toNatClampNeg (((M 32 2) * 17) + 3)) (M3 7 7)) = M4 at h ⊢
  refine WP.blk [(.aload_n 0, 1, (0, 0), .null), (.getfield 11, 3, (0, 0), .null), (.iload_n 2, 1, (0, 0), .null), (.iconst 4, 1, (0, 0), .int 4), (.iadd, 1, (0, 0), .null), (.aload_n 1, 1, (0, 0), .null), (.getfield 36, 3, (1, 8), .null), (.iastore, 1, (0, 0), .null)] (G := vp_in (((M 32 2) * 17) + 4) 408 ∧ True) (c' := (68, [some (.ref 32), some (.ref 7), some (.int ((M 32 2) * 17))], [], (mu M4 33 (Int32.toNatClampNeg (((M 32 2) * 17) + 4)) (M4 7 8)))) (by decide +kernel) rfl ⟨h.1, trivial⟩ ?_
  replace h := h.2
  replace h := h (mu M4 33 (Int32.toNatClampNeg (((M 32 2) * 17) + 4)) (M4 7 8)) rfl
  generalize (mu M4 33 (Int32.toNatClampNeg (((M 32 2) * 17) + 4)) (M4 7 8)) = M5 at h ⊢
  refine WP.blk [(.aload_n 1, 1, (0, 0), .null), (.getfield 39, 3, (1, 13), .null), (.iconst 0, 1, (0, 0), .int 0), (.aload_n 0, 1, (0, 0), .null), (.getfield 11, 3, (0, 0), .null), (.iload_n 2, 1, (0, 0), .null), (.iconst 5, 1, (0, 0), .int 5), (.iadd, 1, (0, 0), .null), (.bipush 6, 2, (0, 0), .int 6), (.invokestatic 42, 3, (999, 5), .null)] (G := cpOk 0 (((M 32 2) * 17) + 5) 6 6 408 ∧ True) (c' := (85, [some (.ref 32), some (.ref 7), some (.int ((M 32 2) * 17))], [], (mcp M5 12 33 (Int32.toNatClampNeg 0) (Int32.toNatClampNeg (((M 32 2) * 17) + 5)) (Int32.toNatClampNeg 6)))) (by decide +kernel) rfl ⟨h.1, trivial⟩ ?_
  replace h := h.2
  replace h := h (mcp M5 12 33 (Int32.toNatClampNeg 0) (Int32.toNatClampNeg (((M 32 2) * 17) + 5)) (Int32.toNatClampNeg 6)) rfl
  generalize (mcp M5 12 33 (Int32.toNatClampNeg 0) (Int32.toNatClampNeg (((M 32 2) * 17) + 5)) (Int32.toNatClampNeg 6)) = M6 at h ⊢
  refine WP.blk [(.aload_n 1, 1, (0, 0), .null), (.getfield 48, 3, (1, 12), .null), (.iconst 0, 1, (0, 0), .int 0), (.aload_n 0, 1, (0, 0), .null), (.getfield 11, 3, (0, 0), .null), (.iload_n 2, 1, (0, 0), .null), (.bipush 11, 2, (0, 0), .int 11), (.iadd, 1, (0, 0), .null), (.bipush 6, 2, (0, 0), .int 6), (.invokestatic 42, 3, (999, 5), .null)] (G := cpOk 0 (((M 32 2) * 17) + 11) 6 6 408 ∧ True) (c' := (103, [some (.ref 32), some (.ref 7), some (.int ((M 32 2) * 17))], [], (mcp M6 11 33 (Int32.toNatClampNeg 0) (Int32.toNatClampNeg (((M 32 2) * 17) + 11)) (Int32.toNatClampNeg 6)))) (by decide +kernel) rfl ⟨h.1, trivial⟩ ?_
  replace h := h.2
  replace h := h (mcp M6 11 33 (Int32.toNatClampNeg 0) (Int32.toNatClampNeg (((M 32 2) * 17) + 11)) (Int32.toNatClampNeg 6)) rfl
  generalize (mcp M6 11 33 (Int32.toNatClampNeg 0) (Int32.toNatClampNeg (((M 32 2) * 17) + 11)) (Int32.toNatClampNeg 6)) = M7 at h ⊢
  refine WP.blk [(.aload_n 0, 1, (0, 0), .null), (.aload_n 0, 1, (0, 0), .null), (.getfield 19, 3, (0, 2), .null), (.iconst 1, 1, (0, 0), .int 1), (.iadd, 1, (0, 0), .null), (.bipush 24, 2, (0, 0), .int 24), (.irem, 1, (0, 0), .null), (.putfield 19, 3, (0, 2), .null)] (G := ¬ (24 : Int32) = 0 ∧ True) (c' := (116, [some (.ref 32), some (.ref 7), some (.int ((M 32 2) * 17))], [], (mu M7 32 2 (irm ((M7 32 2) + 1) 24)))) (by decide +kernel) rfl ⟨(by decide), trivial⟩ ?_
  replace h := h (mu M7 32 2 (irm ((M7 32 2) + 1) 24)) rfl
  generalize (mu M7 32 2 (irm ((M7 32 2) + 1) 24)) = M8 at h ⊢
  refine WP.blk [(.aload_n 0, 1, (0, 0), .null), (.bipush 24, 2, (0, 0), .int 24), (.aload_n 0, 1, (0, 0), .null), (.getfield 15, 3, (0, 1), .null), (.iconst 1, 1, (0, 0), .int 1), (.iadd, 1, (0, 0), .null)] (G := True) (c' := (125, [some (.ref 32), some (.ref 7), some (.int ((M 32 2) * 17))], [.int ((M8 32 1) + 1), .int 24, .ref 32], M8)) (by decide +kernel) rfl trivial ?_
  refine WP.call (.invokestatic 51, 3, (54, 2), .null) (by decide +kernel) rfl (sp_Math_min (d := d + 0) h (fun r9 h => ?_))
  show WP (Ct (d + 1)) 53 Post (128, [some (.ref 32), some (.ref 7), some (.int ((M 32 2) * 17))], [.int r9, .ref 32], M8)
  refine WP.blk [(.putfield 15, 3, (0, 1), .null)] (G := True) (c' := (131, [some (.ref 32), some (.ref 7), some (.int ((M 32 2) * 17))], [], (mu M8 32 1 r9))) (by decide +kernel) rfl trivial ?_
  replace h := h (mu M8 32 1 r9) rfl
  generalize (mu M8 32 1 r9) = M10 at h ⊢
  exact WP.ret (.return_, 1, (0, 0), .null) (rk := 0) (by decide +kernel) (by decide +kernel) rfl trivial (hΦ _ h)
/-- GearRoad$Acts.takeBack(LGearRoad$Bike;)V -/
def S_Acts_takeBack (M : Mm) (Φ : Mm → Prop) : Prop := (∀ M1, M1 = mu M 32 2 (irm (((M 32 2) + 24) - 1) 24) → (∀ M2, M2 = mu M1 32 1 ((M1 32 1) - 1) → vp_in (((M2 32 2) * 17) + 0) 408 ∧ (∀ M3, M3 = mu M2 7 4 (M2 33 (Int32.toNatClampNeg (((M2 32 2) * 17) + 0))) → vp_in (((M2 32 2) * 17) + 1) 408 ∧ (∀ M4, M4 = mu M3 7 5 (M3 33 (Int32.toNatClampNeg (((M2 32 2) * 17) + 1))) → vp_in (((M2 32 2) * 17) + 2) 408 ∧ (∀ M5, M5 = mu M4 7 6 (M4 33 (Int32.toNatClampNeg (((M2 32 2) * 17) + 2))) → vp_in (((M2 32 2) * 17) + 3) 408 ∧ (∀ M6, M6 = mu M5 7 7 (M5 33 (Int32.toNatClampNeg (((M2 32 2) * 17) + 3))) → vp_in (((M2 32 2) * 17) + 4) 408 ∧ (∀ M7, M7 = mu M6 7 8 (M6 33 (Int32.toNatClampNeg (((M2 32 2) * 17) + 4))) → cpOk (((M2 32 2) * 17) + 5) 0 6 408 6 ∧ (∀ M8, M8 = mcp M7 33 12 (Int32.toNatClampNeg (((M2 32 2) * 17) + 5)) (Int32.toNatClampNeg 0) (Int32.toNatClampNeg 6) → cpOk (((M2 32 2) * 17) + 11) 0 6 408 6 ∧ (∀ M9, M9 = mcp M8 33 11 (Int32.toNatClampNeg (((M2 32 2) * 17) + 11)) (Int32.toNatClampNeg 0) (Int32.toNatClampNeg 6) → Φ M9)))))))))
set_option maxRecDepth 100000 in
set_option maxHeartbeats 4000000 in
theorem sp_Acts_takeBack {d : Nat} {Post : Option Value → Mm → Prop} {M : Mm} {Φ : Mm → Prop} (h : S_Acts_takeBack M Φ) (hΦ : ∀ M1, Φ M1 → Post none M1) : Ct (d + 1) 72 [.ref 32, .ref 7] M Post := by
  refine Ct.go (n := 3) (E := [some (.ref 32), some (.ref 7), none]) (by decide +kernel) (by simp [Value.category]) rfl ?_
  refine WP.blk [(.aload_n 0, 1, (0, 0), .null), (.aload_n 0, 1, (0, 0), .null), (.getfield 19, 3, (0, 2), .null), (.bipush 24, 2, (0, 0), .int 24), (.iadd, 1, (0, 0), .null), (.iconst 1, 1, (0, 0), .int 1), (.isub, 1, (0, 0), .null), (.bipush 24, 2, (0, 0), .int 24), (.irem, 1, (0, 0), .null), (.putfield 19, 3, (0, 2), .null)] (G := ¬ (24 : Int32) = 0 ∧ True) (c' := (16, [some (.ref 32), some (.ref 7), none], [], (mu M 32 2 (irm (((M 32 2) + 24) - 1) 24)))) (by decide +kernel) rfl ⟨(by decide), trivial⟩ ?_
  replace h := h (mu M 32 2 (irm (((M 32 2) + 24) - 1) 24)) rfl
  generalize (mu M 32 2 (irm (((M 32 2) + 24) - 1) 24)) = M1 at h ⊢
  refine WP.blk [(.aload_n 0, 1, (0, 0), .null), (.dup, 1, (0, 0), .null), (.getfield 15, 3, (0, 1), .null), (.iconst 1, 1, (0, 0), .int 1), (.isub, 1, (0, 0), .null), (.putfield 15, 3, (0, 1), .null)] (G := True) (c' := (26, [some (.ref 32), some (.ref 7), none], [], (mu M1 32 1 ((M1 32 1) - 1)))) (by decide +kernel) rfl trivial ?_
  replace h := h (mu M1 32 1 ((M1 32 1) - 1)) rfl
  generalize (mu M1 32 1 ((M1 32 1) - 1)) = M2 at h ⊢
  refine WP.blk [(.aload_n 0, 1, (0, 0), .null), (.getfield 19, 3, (0, 2), .null), (.bipush 17, 2, (0, 0), .int 17), (.imul, 1, (0, 0), .null), (.istore_n 2, 1, (0, 0), .null), (.aload_n 1, 1, (0, 0), .null), (.aload_n 0, 1, (0, 0), .null), (.getfield 11, 3, (0, 0), .null), (.iload_n 2, 1, (0, 0), .null), (.iconst 0, 1, (0, 0), .int 0), (.iadd, 1, (0, 0), .null), (.iaload, 1, (0, 0), .null), (.putfield 22, 3, (1, 4), .null)] (G := vp_in (((M2 32 2) * 17) + 0) 408 ∧ True) (c' := (46, [some (.ref 32), some (.ref 7), some (.int ((M2 32 2) * 17))], [], (mu M2 7 4 (M2 33 (Int32.toNatClampNeg (((M2 32 2) * 17) + 0)))))) (by decide +kernel) rfl ⟨h.1, trivial⟩ ?_
  replace h := h.2
  replace h := h (mu M2 7 4 (M2 33 (Int32.toNatClampNeg (((M2 32 2) * 17) + 0)))) rfl
  generalize (mu M2 7 4 (M2 33 (Int32.toNatClampNeg (((M2 32 2) * 17) + 0)))) = M3 at h ⊢
  refine WP.blk [(.aload_n 1, 1, (0, 0), .null), (.aload_n 0, 1, (0, 0), .null), (.getfield 11, 3, (0, 0), .null), (.iload_n 2, 1, (0, 0), .null), (.iconst 1, 1, (0, 0), .int 1), (.iadd, 1, (0, 0), .null), (.iaload, 1, (0, 0), .null), (.putfield 27, 3, (1, 5), .null)] (G := vp_in (((M2 32 2) * 17) + 1) 408 ∧ True) (c' := (58, [some (.ref 32), some (.ref 7), some (.int ((M2 32 2) * 17))], [], (mu M3 7 5 (M3 33 (Int32.toNatClampNeg (((M2 32 2) * 17) + 1)))))) (by decide +kernel) rfl ⟨h.1, trivial⟩ ?_
  replace h := h.2
  replace h := h (mu M3 7 5 (M3 33 (Int32.toNatClampNeg (((M2 32 2) * 17) + 1)))) rfl
  generalize (mu M3 7 5 (M3 33 (Int32.toNatClampNeg (((M2 32 2) * 17) + 1)))) = M4 at h ⊢
  refine WP.blk [(.aload_n 1, 1, (0, 0), .null), (.aload_n 0, 1, (0, 0), .null), (.getfield 11, 3, (0, 0), .null), (.iload_n 2, 1, (0, 0), .null), (.iconst 2, 1, (0, 0), .int 2), (.iadd, 1, (0, 0), .null), (.iaload, 1, (0, 0), .null), (.putfield 30, 3, (1, 6), .null)] (G := vp_in (((M2 32 2) * 17) + 2) 408 ∧ True) (c' := (70, [some (.ref 32), some (.ref 7), some (.int ((M2 32 2) * 17))], [], (mu M4 7 6 (M4 33 (Int32.toNatClampNeg (((M2 32 2) * 17) + 2)))))) (by decide +kernel) rfl ⟨h.1, trivial⟩ ?_
  replace h := h.2
  replace h := h (mu M4 7 6 (M4 33 (Int32.toNatClampNeg (((M2 32 2) * 17) + 2)))) rfl
  generalize (mu M4 7 6 (M4 33 (Int32.toNatClampNeg (((M2 32 2) * 17) + 2)))) = M5 at h ⊢
  refine WP.blk [(.aload_n 1, 1, (0, 0), .null), (.aload_n 0, 1, (0, 0), .null), (.getfield 11, 3, (0, 0), .null), (.iload_n 2, 1, (0, 0), .null), (.iconst 3, 1, (0, 0), .int 3), (.iadd, 1, (0, 0), .null), (.iaload, 1, (0, 0), .null), (.putfield 33, 3, (1, 7), .null)] (G := vp_in (((M2 32 2) * 17) + 3) 408 ∧ True) (c' := (82, [some (.ref 32), some (.ref 7), some (.int ((M2 32 2) * 17))], [], (mu M5 7 7 (M5 33 (Int32.toNatClampNeg (((M2 32 2) * 17) + 3)))))) (by decide +kernel) rfl ⟨h.1, trivial⟩ ?_
  replace h := h.2
  replace h := h (mu M5 7 7 (M5 33 (Int32.toNatClampNeg (((M2 32 2) * 17) + 3)))) rfl
  generalize (mu M5 7 7 (M5 33 (Int32.toNatClampNeg (((M2 32 2) * 17) + 3)))) = M6 at h ⊢
  refine WP.blk [(.aload_n 1, 1, (0, 0), .null), (.aload_n 0, 1, (0, 0), .null), (.getfield 11, 3, (0, 0), .null), (.iload_n 2, 1, (0, 0), .null), (.iconst 4, 1, (0, 0), .int 4), (.iadd, 1, (0, 0), .null), (.iaload, 1, (0, 0), .null), (.putfield 36, 3, (1, 8), .null)] (G := vp_in (((M2 32 2) * 17) + 4) 408 ∧ True) (c' := (94, [some (.ref 32), some (.ref 7), some (.int ((M2 32 2) * 17))], [], (mu M6 7 8 (M6 33 (Int32.toNatClampNeg (((M2 32 2) * 17) + 4)))))) (by decide +kernel) rfl ⟨h.1, trivial⟩ ?_
  replace h := h.2
  replace h := h (mu M6 7 8 (M6 33 (Int32.toNatClampNeg (((M2 32 2) * 17) + 4)))) rfl
  generalize (mu M6 7 8 (M6 33 (Int32.toNatClampNeg (((M2 32 2) * 17) + 4)))) = M7 at h ⊢
  refine WP.blk [(.aload_n 0, 1, (0, 0), .null), (.getfield 11, 3, (0, 0), .null), (.iload_n 2, 1, (0, 0), .null), (.iconst 5, 1, (0, 0), .int 5), (.iadd, 1, (0, 0), .null), (.aload_n 1, 1, (0, 0), .null), (.getfield 39, 3, (1, 13), .null), (.iconst 0, 1, (0, 0), .int 0), (.bipush 6, 2, (0, 0), .int 6), (.invokestatic 42, 3, (999, 5), .null)] (G := cpOk (((M2 32 2) * 17) + 5) 0 6 408 6 ∧ True) (c' := (111, [some (.ref 32), some (.ref 7), some (.int ((M2 32 2) * 17))], [], (mcp M7 33 12 (Int32.toNatClampNeg (((M2 32 2) * 17) + 5)) (Int32.toNatClampNeg 0) (Int32.toNatClampNeg 6)))) (by decide +kernel) rfl ⟨h.1, trivial⟩ ?_
  replace h := h.2
  replace h := h (mcp M7 33 12 (Int32.toNatClampNeg (((M2 32 2) * 17) + 5)) (Int32.toNatClampNeg 0) (Int32.toNatClampNeg 6)) rfl
  generalize (mcp M7 33 12 (Int32.toNatClampNeg (((M2 32 2) * 17) + 5)) (Int32.toNatClampNeg 0) (Int32.toNatClampNeg 6)) = M8 at h ⊢
  refine WP.blk [(.aload_n 0, 1, (0, 0), .null), (.getfield 11, 3, (0, 0), .null), (.iload_n 2, 1, (0, 0), .null), (.bipush 11, 2, (0, 0), .int 11), (.iadd, 1, (0, 0), .null), (.aload_n 1, 1, (0, 0), .null), (.getfield 48, 3, (1, 12), .null), (.iconst 0, 1, (0, 0), .int 0), (.bipush 6, 2, (0, 0), .int 6), (.invokestatic 42, 3, (999, 5), .null)] (G := cpOk (((M2 32 2) * 17) + 11) 0 6 408 6 ∧ True) (c' := (129, [some (.ref 32), some (.ref 7), some (.int ((M2 32 2) * 17))], [], (mcp M8 33 11 (Int32.toNatClampNeg (((M2 32 2) * 17) + 11)) (Int32.toNatClampNeg 0) (Int32.toNatClampNeg 6)))) (by decide +kernel) rfl ⟨h.1, trivial⟩ ?_
  replace h := h.2
  replace h := h (mcp M8 33 11 (Int32.toNatClampNeg (((M2 32 2) * 17) + 11)) (Int32.toNatClampNeg 0) (Int32.toNatClampNeg 6)) rfl
  generalize (mcp M8 33 11 (Int32.toNatClampNeg (((M2 32 2) * 17) + 11)) (Int32.toNatClampNeg 0) (Int32.toNatClampNeg 6)) = M9 at h ⊢
  exact WP.ret (.return_, 1, (0, 0), .null) (rk := 0) (by decide +kernel) (by decide +kernel) rfl trivial (hΦ _ h)
/-- GearRoad$Acts.forget()V -/
def S_Acts_forget (M : Mm) (Φ : Mm → Prop) : Prop := (∀ M1, M1 = mu M 32 1 0 → Φ M1)
set_option maxRecDepth 100000 in
set_option maxHeartbeats 4000000 in
theorem sp_Acts_forget {d : Nat} {Post : Option Value → Mm → Prop} {M : Mm} {Φ : Mm → Prop} (h : S_Acts_forget M Φ) (hΦ : ∀ M1, Φ M1 → Post none M1) : Ct (d + 1) 41 [.ref 32] M Post := by
  refine Ct.go (n := 1) (E := [some (.ref 32)]) (by decide +kernel) (by simp [Value.category]) rfl ?_
  refine WP.blk [(.aload_n 0, 1, (0, 0), .null), (.iconst 0, 1, (0, 0), .int 0), (.putfield 15, 3, (0, 1), .null)] (G := True) (c' := (5, [some (.ref 32)], [], (mu M 32 1 0))) (by decide +kernel) rfl trivial ?_
  replace h := h (mu M 32 1 0) rfl
  generalize (mu M 32 1 0) = M1 at h ⊢
  exact WP.ret (.return_, 1, (0, 0), .null) (rk := 0) (by decide +kernel) (by decide +kernel) rfl trivial (hΦ _ h)
/-- GearRoad$Planner.costPlace(III)I -/
def S_Plan_costPlace (M : Mm) (a1 : Int32) (a2 : Int32) (a3 : Int32) (Φ : Int32 → Prop) : Prop := Φ (((((irm a1 2) * 6) + (irm a2 6)) * 6) + (irm a3 6))
set_option maxRecDepth 100000 in
set_option maxHeartbeats 4000000 in
theorem sp_Plan_costPlace {d : Nat} {Post : Option Value → Mm → Prop} {M : Mm} {a1 : Int32} {a2 : Int32} {a3 : Int32} {Φ : Int32 → Prop} (h : S_Plan_costPlace M a1 a2 a3 Φ) (hΦ : ∀ r, Φ r → Post (some (.int r)) M) : Ct (d + 1) 88 [.int a1, .int a2, .int a3] M Post := by
  refine Ct.go (n := 3) (E := [some (.int a1), some (.int a2), some (.int a3)]) (by decide +kernel) (by simp [Value.category]) rfl ?_
  refine WP.blk [(.iload_n 0, 1, (0, 0), .null), (.iconst 2, 1, (0, 0), .int 2), (.irem, 1, (0, 0), .null), (.bipush 6, 2, (0, 0), .int 6), (.imul, 1, (0, 0), .null), (.iload_n 1, 1, (0, 0), .null), (.bipush 6, 2, (0, 0), .int 6), (.irem, 1, (0, 0), .null), (.iadd, 1, (0, 0), .null), (.bipush 6, 2, (0, 0), .int 6), (.imul, 1, (0, 0), .null), (.iload_n 2, 1, (0, 0), .null), (.bipush 6, 2, (0, 0), .int 6), (.irem, 1, (0, 0), .null), (.iadd, 1, (0, 0), .null)] (G := ¬ (2 : Int32) = 0 ∧ ¬ (6 : Int32) = 0 ∧ ¬ (6 : Int32) = 0 ∧ True) (c' := (19, [some (.int a1), some (.int a2), some (.int a3)], [.int (((((irm a1 2) * 6) + (irm a2 6)) * 6) + (irm a3 6))], M)) (by decide +kernel) rfl ⟨(by decide), (by decide), (by decide), trivial⟩ ?_
  exact WP.ret (.ireturn, 1, (0, 0), .null) (rk := 1) (by decide +kernel) (by decide +kernel) rfl trivial (hΦ _ h)
/-- GearRoad$Planner.learnCosts(LGearRoad$Bike;)V -/
def D_Plan_learnCosts_20 (Φ : Mm → Prop) (rec_2 : Int32 × Mm → Prop) (rec_9 : Int32 × Int32 × Mm → Prop) (rec_20 : Int32 × Int32 × Int32 × Mm → Prop) : Int32 × Int32 × Int32 × Mm → Prop
  | (x1, x2, x3, M) => (((M 7 2) ≤ x3 → rec_9 (x1, (x2 + 1), M)) ∧ (¬ ((M 7 2) ≤ x3) → S_Plan_costPlace M x1 x2 x3 (fun r5 => S_Bike_cogCost 7 M x2 x3 x1 (fun r6 => vp_in r5 72 ∧ (∀ M7, M7 = mu M 35 (Int32.toNatClampNeg r5) r6 → rec_20 (x1, x2, (x3 + 1), M7))))))
def D_Plan_learnCosts_9 (Φ : Mm → Prop) (rec_2 : Int32 × Mm → Prop) (rec_9 : Int32 × Int32 × Mm → Prop) : Int32 × Int32 × Mm → Prop
  | (x1, x2, M) => (((M 7 2) ≤ x2 → rec_2 ((x1 + 1), M)) ∧ (¬ ((M 7 2) ≤ x2) → ∃ n, lp (D_Plan_learnCosts_20 Φ rec_2 rec_9) n (x1, x2, 0, M)))
def D_Plan_learnCosts_2 (Φ : Mm → Prop) (rec_2 : Int32 × Mm → Prop) : Int32 × Mm → Prop
  | (x1, M) => ((2 ≤ x1 → Φ M) ∧ (¬ (2 ≤ x1) → ∃ n, lp (D_Plan_learnCosts_9 Φ rec_2) n (x1, 0, M)))
def S_Plan_learnCosts (M : Mm) (Φ : Mm → Prop) : Prop := ∃ n, lp (D_Plan_learnCosts_2 Φ) n (0, M)
set_option maxRecDepth 100000 in
set_option maxHeartbeats 4000000 in
theorem L_Plan_learnCosts_20 {d : Nat} {Post : Option Value → Mm → Prop} {rec_2 : Int32 × Mm → Prop} {rec_9 : Int32 × Int32 × Mm → Prop} {rec_20 : Int32 × Int32 × Int32 × Mm → Prop} {Φ : Mm → Prop} (hΦ : ∀ M1, Φ M1 → Post none M1) (hrec_2 : ∀ (x1 : Int32) (M : Mm), rec_2 (x1, M) → WP (Ct (d + 2)) 87 Post (2, [some (.ref 34), some (.ref 7), some (.int x1), none, none], [], M)) (hrec_9 : ∀ (x1 : Int32) (x2 : Int32) (M : Mm), rec_9 (x1, x2, M) → WP (Ct (d + 2)) 87 Post (9, [some (.ref 34), some (.ref 7), some (.int x1), some (.int x2), none], [], M)) (hrec_20 : ∀ (x1 : Int32) (x2 : Int32) (x3 : Int32) (M : Mm), rec_20 (x1, x2, x3, M) → WP (Ct (d + 2)) 87 Post (20, [some (.ref 34), some (.ref 7), some (.int x1), some (.int x2), some (.int x3)], [], M)) : ∀ (x1 : Int32) (x2 : Int32) (x3 : Int32) (M : Mm), D_Plan_learnCosts_20 Φ rec_2 rec_9 rec_20 (x1, x2, x3, M) → WP (Ct (d + 2)) 87 Post (20, [some (.ref 34), some (.ref 7), some (.int x1), some (.int x2), some (.int x3)], [], M) := by
  intro x1 x2 x3 M h
  replace h : (((M 7 2) ≤ x3 → rec_9 (x1, (x2 + 1), M)) ∧ (¬ ((M 7 2) ≤ x3) → S_Plan_costPlace M x1 x2 x3 (fun r5 => S_Bike_cogCost 7 M x2 x3 x1 (fun r6 => vp_in r5 72 ∧ (∀ M7, M7 = mu M 35 (Int32.toNatClampNeg r5) r6 → rec_20 (x1, x2, (x3 + 1), M7)))))) := h
  refine WP.blk [(.iload 4, 2, (0, 0), .null), (.aload_n 1, 1, (0, 0), .null), (.getfield 90, 3, (1, 2), .null)] (G := True) (c' := (26, [some (.ref 34), some (.ref 7), some (.int x1), some (.int x2), some (.int x3)], [.int (M 7 2), .int x3], M)) (by decide +kernel) rfl trivial ?_
  refine WP.br (.if_icmp .ge 29, 3, (55, 0), .null) (by decide +kernel) rfl (fun c4 => ?_) (fun c4 => ?_)
  · replace h := h.1 c4
    refine WP.blk [(.iinc 3 1, 3, (0, 0), .int 1), (.goto (-49), 3, (9, 0), .null)] (G := True) (c' := (9, [some (.ref 34), some (.ref 7), some (.int x1), some (.int (x2 + 1)), some (.int x3)], [], M)) (by decide +kernel) rfl trivial ?_
    refine WP.fgt [some (.ref 34), some (.ref 7), some (.int x1), some (.int (x2 + 1)), none] (by simp [fgt]) ?_
    exact hrec_9 _ _ _ h
  · replace h := h.2 c4
    refine WP.blk [(.aload_n 0, 1, (0, 0), .null), (.getfield 9, 3, (2, 0), .null), (.iload_n 2, 1, (0, 0), .null), (.iload_n 3, 1, (0, 0), .null), (.iload 4, 2, (0, 0), .null)] (G := True) (c' := (37, [some (.ref 34), some (.ref 7), some (.int x1), some (.int x2), some (.int x3)], [.int x3, .int x2, .int x1, .ref 35], M)) (by decide +kernel) rfl trivial ?_
    refine WP.call (.invokestatic 63, 3, (88, 3), .null) (by decide +kernel) rfl (sp_Plan_costPlace (d := d + 1) h (fun r5 h => ?_))
    show WP (Ct (d + 2)) 87 Post (40, [some (.ref 34), some (.ref 7), some (.int x1), some (.int x2), some (.int x3)], [.int r5, .ref 35], M)
    refine WP.blk [(.aload_n 1, 1, (0, 0), .null), (.iload_n 3, 1, (0, 0), .null), (.iload 4, 2, (0, 0), .null), (.iload_n 2, 1, (0, 0), .null)] (G := True) (c' := (45, [some (.ref 34), some (.ref 7), some (.int x1), some (.int x2), some (.int x3)], [.int x1, .int x3, .int x2, .ref 7, .int r5, .ref 35], M)) (by decide +kernel) rfl trivial ?_
    refine WP.call (.invokevirtual 93, 3, (81, 4), .retAddr 1) (by decide +kernel) rfl (sp_Bike_cogCost (d := d + 0) (by decide) h (fun r6 h => ?_))
    show WP (Ct (d + 2)) 87 Post (48, [some (.ref 34), some (.ref 7), some (.int x1), some (.int x2), some (.int x3)], [.int r6, .int r5, .ref 35], M)
    refine WP.blk [(.iastore, 1, (0, 0), .null)] (G := vp_in r5 72 ∧ True) (c' := (49, [some (.ref 34), some (.ref 7), some (.int x1), some (.int x2), some (.int x3)], [], (mu M 35 (Int32.toNatClampNeg r5) r6))) (by decide +kernel) rfl ⟨h.1, trivial⟩ ?_
    replace h := h.2
    replace h := h (mu M 35 (Int32.toNatClampNeg r5) r6) rfl
    generalize (mu M 35 (Int32.toNatClampNeg r5) r6) = M7 at h ⊢
    refine WP.blk [(.iinc 4 1, 3, (0, 0), .int 1), (.goto (-32), 3, (20, 0), .null)] (G := True) (c' := (20, [some (.ref 34), some (.ref 7), some (.int x1), some (.int x2), some (.int (x3 + 1))], [], M7)) (by decide +kernel) rfl trivial ?_
    exact hrec_20 _ _ _ _ h
theorem P_Plan_learnCosts_20 {d : Nat} {Post : Option Value → Mm → Prop} {rec_2 : Int32 × Mm → Prop} {rec_9 : Int32 × Int32 × Mm → Prop} {Φ : Mm → Prop} (hΦ : ∀ M1, Φ M1 → Post none M1) (hrec_2 : ∀ (x1 : Int32) (M : Mm), rec_2 (x1, M) → WP (Ct (d + 2)) 87 Post (2, [some (.ref 34), some (.ref 7), some (.int x1), none, none], [], M)) (hrec_9 : ∀ (x1 : Int32) (x2 : Int32) (M : Mm), rec_9 (x1, x2, M) → WP (Ct (d + 2)) 87 Post (9, [some (.ref 34), some (.ref 7), some (.int x1), some (.int x2), none], [], M)) : ∀ (n : Nat) (x1 : Int32) (x2 : Int32) (x3 : Int32) (M : Mm), lp (D_Plan_learnCosts_20 Φ rec_2 rec_9) n (x1, x2, x3, M) → WP (Ct (d + 2)) 87 Post (20, [some (.ref 34), some (.ref 7), some (.int x1), some (.int x2), some (.int x3)], [], M)
  | 0, x1, x2, x3, M, h => absurd h (by simp [lp])
  | n + 1, x1, x2, x3, M, h => L_Plan_learnCosts_20 hΦ hrec_2 hrec_9 (P_Plan_learnCosts_20 hΦ hrec_2 hrec_9 n) x1 x2 x3 M h
set_option maxRecDepth 100000 in
set_option maxHeartbeats 4000000 in
theorem L_Plan_learnCosts_9 {d : Nat} {Post : Option Value → Mm → Prop} {rec_2 : Int32 × Mm → Prop} {rec_9 : Int32 × Int32 × Mm → Prop} {Φ : Mm → Prop} (hΦ : ∀ M1, Φ M1 → Post none M1) (hrec_2 : ∀ (x1 : Int32) (M : Mm), rec_2 (x1, M) → WP (Ct (d + 2)) 87 Post (2, [some (.ref 34), some (.ref 7), some (.int x1), none, none], [], M)) (hrec_9 : ∀ (x1 : Int32) (x2 : Int32) (M : Mm), rec_9 (x1, x2, M) → WP (Ct (d + 2)) 87 Post (9, [some (.ref 34), some (.ref 7), some (.int x1), some (.int x2), none], [], M)) : ∀ (x1 : Int32) (x2 : Int32) (M : Mm), D_Plan_learnCosts_9 Φ rec_2 rec_9 (x1, x2, M) → WP (Ct (d + 2)) 87 Post (9, [some (.ref 34), some (.ref 7), some (.int x1), some (.int x2), none], [], M) := by
  intro x1 x2 M h
  replace h : (((M 7 2) ≤ x2 → rec_2 ((x1 + 1), M)) ∧ (¬ ((M 7 2) ≤ x2) → ∃ n, lp (D_Plan_learnCosts_20 Φ rec_2 rec_9) n (x1, x2, 0, M))) := h
  refine WP.blk [(.iload_n 3, 1, (0, 0), .null), (.aload_n 1, 1, (0, 0), .null), (.getfield 90, 3, (1, 2), .null)] (G := True) (c' := (14, [some (.ref 34), some (.ref 7), some (.int x1), some (.int x2), none], [.int (M 7 2), .int x2], M)) (by decide +kernel) rfl trivial ?_
  refine WP.br (.if_icmp .ge 47, 3, (61, 0), .null) (by decide +kernel) rfl (fun c3 => ?_) (fun c3 => ?_)
  · replace h := h.1 c3
    refine WP.blk [(.iinc 2 1, 3, (0, 0), .int 1), (.goto (-62), 3, (2, 0), .null)] (G := True) (c' := (2, [some (.ref 34), some (.ref 7), some (.int (x1 + 1)), some (.int x2), none], [], M)) (by decide +kernel) rfl trivial ?_
    refine WP.fgt [some (.ref 34), some (.ref 7), some (.int (x1 + 1)), none, none] (by simp [fgt]) ?_
    exact hrec_2 _ _ h
  · replace h := h.2 c3
    refine WP.blk [(.iconst 0, 1, (0, 0), .int 0), (.istore 4, 2, (0, 0), .null)] (G := True) (c' := (20, [some (.ref 34), some (.ref 7), some (.int x1), some (.int x2), some (.int 0)], [], M)) (by decide +kernel) rfl trivial ?_
    obtain ⟨n, h⟩ := h
    exact P_Plan_learnCosts_20 hΦ hrec_2 hrec_9 n _ _ _ _ h
theorem P_Plan_learnCosts_9 {d : Nat} {Post : Option Value → Mm → Prop} {rec_2 : Int32 × Mm → Prop} {Φ : Mm → Prop} (hΦ : ∀ M1, Φ M1 → Post none M1) (hrec_2 : ∀ (x1 : Int32) (M : Mm), rec_2 (x1, M) → WP (Ct (d + 2)) 87 Post (2, [some (.ref 34), some (.ref 7), some (.int x1), none, none], [], M)) : ∀ (n : Nat) (x1 : Int32) (x2 : Int32) (M : Mm), lp (D_Plan_learnCosts_9 Φ rec_2) n (x1, x2, M) → WP (Ct (d + 2)) 87 Post (9, [some (.ref 34), some (.ref 7), some (.int x1), some (.int x2), none], [], M)
  | 0, x1, x2, M, h => absurd h (by simp [lp])
  | n + 1, x1, x2, M, h => L_Plan_learnCosts_9 hΦ hrec_2 (P_Plan_learnCosts_9 hΦ hrec_2 n) x1 x2 M h
set_option maxRecDepth 100000 in
set_option maxHeartbeats 4000000 in
theorem L_Plan_learnCosts_2 {d : Nat} {Post : Option Value → Mm → Prop} {rec_2 : Int32 × Mm → Prop} {Φ : Mm → Prop} (hΦ : ∀ M1, Φ M1 → Post none M1) (hrec_2 : ∀ (x1 : Int32) (M : Mm), rec_2 (x1, M) → WP (Ct (d + 2)) 87 Post (2, [some (.ref 34), some (.ref 7), some (.int x1), none, none], [], M)) : ∀ (x1 : Int32) (M : Mm), D_Plan_learnCosts_2 Φ rec_2 (x1, M) → WP (Ct (d + 2)) 87 Post (2, [some (.ref 34), some (.ref 7), some (.int x1), none, none], [], M) := by
  intro x1 M h
  replace h : ((2 ≤ x1 → Φ M) ∧ (¬ (2 ≤ x1) → ∃ n, lp (D_Plan_learnCosts_9 Φ rec_2) n (x1, 0, M))) := h
  refine WP.blk [(.iload_n 2, 1, (0, 0), .null), (.iconst 2, 1, (0, 0), .int 2)] (G := True) (c' := (4, [some (.ref 34), some (.ref 7), some (.int x1), none, none], [.int 2, .int x1], M)) (by decide +kernel) rfl trivial ?_
  refine WP.br (.if_icmp .ge 63, 3, (67, 0), .null) (by decide +kernel) rfl (fun c2 => ?_) (fun c2 => ?_)
  · replace h := h.1 c2
    exact WP.ret (.return_, 1, (0, 0), .null) (rk := 0) (by decide +kernel) (by decide +kernel) rfl trivial (hΦ _ h)
  · replace h := h.2 c2
    refine WP.blk [(.iconst 0, 1, (0, 0), .int 0), (.istore_n 3, 1, (0, 0), .null)] (G := True) (c' := (9, [some (.ref 34), some (.ref 7), some (.int x1), some (.int 0), none], [], M)) (by decide +kernel) rfl trivial ?_
    obtain ⟨n, h⟩ := h
    exact P_Plan_learnCosts_9 hΦ hrec_2 n _ _ _ h
theorem P_Plan_learnCosts_2 {d : Nat} {Post : Option Value → Mm → Prop} {Φ : Mm → Prop} (hΦ : ∀ M1, Φ M1 → Post none M1) : ∀ (n : Nat) (x1 : Int32) (M : Mm), lp (D_Plan_learnCosts_2 Φ) n (x1, M) → WP (Ct (d + 2)) 87 Post (2, [some (.ref 34), some (.ref 7), some (.int x1), none, none], [], M)
  | 0, x1, M, h => absurd h (by simp [lp])
  | n + 1, x1, M, h => L_Plan_learnCosts_2 hΦ (P_Plan_learnCosts_2 hΦ n) x1 M h
set_option maxRecDepth 100000 in
set_option maxHeartbeats 4000000 in
theorem sp_Plan_learnCosts {d : Nat} {Post : Option Value → Mm → Prop} {M : Mm} {Φ : Mm → Prop} (h : S_Plan_learnCosts M Φ) (hΦ : ∀ M1, Φ M1 → Post none M1) : Ct (d + 3) 87 [.ref 34, .ref 7] M Post := by
  refine Ct.go (n := 5) (E := [some (.ref 34), some (.ref 7), none, none, none]) (by decide +kernel) (by simp [Value.category]) rfl ?_
  refine WP.blk [(.iconst 0, 1, (0, 0), .int 0), (.istore_n 2, 1, (0, 0), .null)] (G := True) (c' := (2, [some (.ref 34), some (.ref 7), some (.int 0), none, none], [], M)) (by decide +kernel) rfl trivial ?_
  obtain ⟨n, h⟩ := h
  exact P_Plan_learnCosts_2 hΦ n _ _ h
/-- GearRoad$Planner.turnsBy(III)I -/
def S_Plan_turnsBy (M : Mm) (a1 : Int32) (a2 : Int32) (a3 : Int32) (Φ : Int32 → Prop) : Prop := vp_in ((a1 * 18) + a3) 108 ∧ (((M 36 (Int32.toNatClampNeg ((a1 * 18) + a3))) = 1000000000 → Φ 1000000000) ∧ (¬ ((M 36 (Int32.toNatClampNeg ((a1 * 18) + a3))) = 1000000000) → S_Plan_costPlace M a1 a2 a3 (fun r2 => vp_in r2 72 ∧ (((M 35 (Int32.toNatClampNeg r2)) = (-1000000) → Φ 1000000000) ∧ (¬ ((M 35 (Int32.toNatClampNeg r2)) = (-1000000)) → S_Bike_ringCost M a2 a3 (fun r4 => Φ (((M 35 (Int32.toNatClampNeg r2)) + r4) + (M 36 (Int32.toNatClampNeg ((a1 * 18) + a3))))))))))
set_option maxRecDepth 100000 in
set_option maxHeartbeats 4000000 in
theorem sp_Plan_turnsBy {d : Nat} {Post : Option Value → Mm → Prop} {M : Mm} {a1 : Int32} {a2 : Int32} {a3 : Int32} {Φ : Int32 → Prop} (h : S_Plan_turnsBy M a1 a2 a3 Φ) (hΦ : ∀ r, Φ r → Post (some (.int r)) M) : Ct (d + 3) 92 [.ref 34, .int a1, .int a2, .int a3] M Post := by
  refine Ct.go (n := 6) (E := [some (.ref 34), some (.int a1), some (.int a2), some (.int a3), none, none]) (by decide +kernel) (by simp [Value.category]) rfl ?_
  refine WP.blk [(.aload_n 0, 1, (0, 0), .null), (.getfield 15, 3, (2, 1), .null), (.iload_n 1, 1, (0, 0), .null), (.bipush 18, 2, (0, 0), .int 18), (.imul, 1, (0, 0), .null), (.iload_n 3, 1, (0, 0), .null), (.iadd, 1, (0, 0), .null), (.iaload, 1, (0, 0), .null), (.istore 4, 2, (0, 0), .null), (.iload 4, 2, (0, 0), .null), (.ldc 42, 2, (0, 0), .int (1000000000))] (G := vp_in ((a1 * 18) + a3) 108 ∧ True) (c' := (17, [some (.ref 34), some (.int a1), some (.int a2), some (.int a3), some (.int (M 36 (Int32.toNatClampNeg ((a1 * 18) + a3)))), none], [.int 1000000000, .int (M 36 (Int32.toNatClampNeg ((a1 * 18) + a3)))], M)) (by decide +kernel) rfl ⟨h.1, trivial⟩ ?_
  replace h := h.2
  refine WP.br (.if_icmp .ne 6, 3, (23, 0), .null) (by decide +kernel) rfl (fun c1 => ?_) (fun c1 => ?_)
  · replace h := h.2 c1
    refine WP.blk [(.aload_n 0, 1, (0, 0), .null), (.getfield 9, 3, (2, 0), .null), (.iload_n 1, 1, (0, 0), .null), (.iload_n 2, 1, (0, 0), .null), (.iload_n 3, 1, (0, 0), .null)] (G := True) (c' := (30, [some (.ref 34), some (.int a1), some (.int a2), some (.int a3), some (.int (M 36 (Int32.toNatClampNeg ((a1 * 18) + a3)))), none], [.int a3, .int a2, .int a1, .ref 35], M)) (by decide +kernel) rfl trivial ?_
    refine WP.call (.invokestatic 63, 3, (88, 3), .null) (by decide +kernel) rfl (sp_Plan_costPlace (d := d + 1) h (fun r2 h => ?_))
    show WP (Ct (d + 2)) 92 Post (33, [some (.ref 34), some (.int a1), some (.int a2), some (.int a3), some (.int (M 36 (Int32.toNatClampNeg ((a1 * 18) + a3)))), none], [.int r2, .ref 35], M)
    refine WP.blk [(.iaload, 1, (0, 0), .null), (.istore 5, 2, (0, 0), .null), (.iload 5, 2, (0, 0), .null), (.ldc 43, 2, (0, 0), .int (-1000000))] (G := vp_in r2 72 ∧ True) (c' := (40, [some (.ref 34), some (.int a1), some (.int a2), some (.int a3), some (.int (M 36 (Int32.toNatClampNeg ((a1 * 18) + a3)))), some (.int (M 35 (Int32.toNatClampNeg r2)))], [.int (-1000000), .int (M 35 (Int32.toNatClampNeg r2))], M)) (by decide +kernel) rfl ⟨h.1, trivial⟩ ?_
    replace h := h.2
    refine WP.br (.if_icmp .ne 8, 3, (48, 0), .null) (by decide +kernel) rfl (fun c3 => ?_) (fun c3 => ?_)
    · replace h := h.2 c3
      refine WP.blk [(.iload 5, 2, (0, 0), .null), (.iload_n 2, 1, (0, 0), .null), (.iload_n 3, 1, (0, 0), .null)] (G := True) (c' := (52, [some (.ref 34), some (.int a1), some (.int a2), some (.int a3), some (.int (M 36 (Int32.toNatClampNeg ((a1 * 18) + a3)))), some (.int (M 35 (Int32.toNatClampNeg r2)))], [.int a3, .int a2, .int (M 35 (Int32.toNatClampNeg r2))], M)) (by decide +kernel) rfl trivial ?_
      refine WP.call (.invokestatic 66, 3, (84, 2), .null) (by decide +kernel) rfl (sp_Bike_ringCost (d := d + 0) h (fun r4 h => ?_))
      show WP (Ct (d + 2)) 92 Post (55, [some (.ref 34), some (.int a1), some (.int a2), some (.int a3), some (.int (M 36 (Int32.toNatClampNeg ((a1 * 18) + a3)))), some (.int (M 35 (Int32.toNatClampNeg r2)))], [.int r4, .int (M 35 (Int32.toNatClampNeg r2))], M)
      refine WP.blk [(.iadd, 1, (0, 0), .null), (.iload 4, 2, (0, 0), .null), (.iadd, 1, (0, 0), .null)] (G := True) (c' := (59, [some (.ref 34), some (.int a1), some (.int a2), some (.int a3), some (.int (M 36 (Int32.toNatClampNeg ((a1 * 18) + a3)))), some (.int (M 35 (Int32.toNatClampNeg r2)))], [.int (((M 35 (Int32.toNatClampNeg r2)) + r4) + (M 36 (Int32.toNatClampNeg ((a1 * 18) + a3))))], M)) (by decide +kernel) rfl trivial ?_
      exact WP.ret (.ireturn, 1, (0, 0), .null) (rk := 1) (by decide +kernel) (by decide +kernel) rfl trivial (hΦ _ h)
    · replace h := h.1 (Classical.not_not.mp c3)
      refine WP.blk [(.ldc 42, 2, (0, 0), .int (1000000000)), (.goto 14, 3, (59, 0), .null)] (G := True) (c' := (59, [some (.ref 34), some (.int a1), some (.int a2), some (.int a3), some (.int (M 36 (Int32.toNatClampNeg ((a1 * 18) + a3)))), some (.int (M 35 (Int32.toNatClampNeg r2)))], [.int 1000000000], M)) (by decide +kernel) rfl trivial ?_
      exact WP.ret (.ireturn, 1, (0, 0), .null) (rk := 1) (by decide +kernel) (by decide +kernel) rfl trivial (hΦ _ h)
  · replace h := h.1 (Classical.not_not.mp c1)
    refine WP.blk [(.ldc 42, 2, (0, 0), .int (1000000000))] (G := True) (c' := (22, [some (.ref 34), some (.int a1), some (.int a2), some (.int a3), some (.int (M 36 (Int32.toNatClampNeg ((a1 * 18) + a3)))), none], [.int 1000000000], M)) (by decide +kernel) rfl trivial ?_
    exact WP.ret (.ireturn, 1, (0, 0), .null) (rk := 1) (by decide +kernel) (by decide +kernel) rfl trivial (hΦ _ h)
/-- GearRoad$Planner.bestGear(II)I -/
def D_Plan_bestGear_44 (M : Mm) (Φ : Int32 → Prop) (rec_10 : Int32 × Int32 × Int32 × Int32 × Int32 → Prop) : Int32 × Int32 × Int32 × Int32 × Int32 → Prop
  | (x1, x2, x3, x4, x5) => rec_10 (x1, x2, x3, x4, (x5 + 1))
def D_Plan_bestGear_10 (M : Mm) (Φ : Int32 → Prop) (rec_10 : Int32 × Int32 × Int32 × Int32 × Int32 → Prop) : Int32 × Int32 × Int32 × Int32 × Int32 → Prop
  | (x1, x2, x3, x4, x5) => ((18 ≤ x5 → Φ x3) ∧ (¬ (18 ≤ x5) → S_Plan_turnsBy M x1 x2 x5 (fun r7 => ((r7 < x4 → D_Plan_bestGear_44 M Φ rec_10 (x1, x2, x5, r7, x5)) ∧ (¬ (r7 < x4) → D_Plan_bestGear_44 M Φ rec_10 (x1, x2, x3, x4, x5))))))
def S_Plan_bestGear (M : Mm) (a1 : Int32) (a2 : Int32) (Φ : Int32 → Prop) : Prop := ∃ n, lp (D_Plan_bestGear_10 M Φ) n (a1, a2, (-1000000), 1000000000, 0)
set_option maxRecDepth 100000 in
set_option maxHeartbeats 4000000 in
theorem L_Plan_bestGear_44 {d : Nat} {Post : Option Value → Mm → Prop} {M : Mm} {rec_10 : Int32 × Int32 × Int32 × Int32 × Int32 → Prop} {Φ : Int32 → Prop} (hΦ : ∀ r, Φ r → Post (some (.int r)) M) (hrec_10 : ∀ (x1 : Int32) (x2 : Int32) (x3 : Int32) (x4 : Int32) (x5 : Int32), rec_10 (x1, x2, x3, x4, x5) → WP (Ct (d + 3)) 91 Post (10, [some (.ref 34), some (.int x1), some (.int x2), some (.int x3), some (.int x4), some (.int x5), none], [], M)) : ∀ (x1 : Int32) (x2 : Int32) (x3 : Int32) (x4 : Int32) (x5 : Int32), D_Plan_bestGear_44 M Φ rec_10 (x1, x2, x3, x4, x5) → WP (Ct (d + 3)) 91 Post (44, [some (.ref 34), some (.int x1), some (.int x2), some (.int x3), some (.int x4), some (.int x5), none], [], M) := by
  intro x1 x2 x3 x4 x5 h
  replace h : rec_10 (x1, x2, x3, x4, (x5 + 1)) := h
  refine WP.blk [(.iinc 5 1, 3, (0, 0), .int 1), (.goto (-37), 3, (10, 0), .null)] (G := True) (c' := (10, [some (.ref 34), some (.int x1), some (.int x2), some (.int x3), some (.int x4), some (.int (x5 + 1)), none], [], M)) (by decide +kernel) rfl trivial ?_
  exact hrec_10 _ _ _ _ _ h
set_option maxRecDepth 100000 in
set_option maxHeartbeats 4000000 in
theorem L_Plan_bestGear_10 {d : Nat} {Post : Option Value → Mm → Prop} {M : Mm} {rec_10 : Int32 × Int32 × Int32 × Int32 × Int32 → Prop} {Φ : Int32 → Prop} (hΦ : ∀ r, Φ r → Post (some (.int r)) M) (hrec_10 : ∀ (x1 : Int32) (x2 : Int32) (x3 : Int32) (x4 : Int32) (x5 : Int32), rec_10 (x1, x2, x3, x4, x5) → WP (Ct (d + 3)) 91 Post (10, [some (.ref 34), some (.int x1), some (.int x2), some (.int x3), some (.int x4), some (.int x5), none], [], M)) : ∀ (x1 : Int32) (x2 : Int32) (x3 : Int32) (x4 : Int32) (x5 : Int32), D_Plan_bestGear_10 M Φ rec_10 (x1, x2, x3, x4, x5) → WP (Ct (d + 3)) 91 Post (10, [some (.ref 34), some (.int x1), some (.int x2), some (.int x3), some (.int x4), some (.int x5), none], [], M) := by
  intro x1 x2 x3 x4 x5 h
  replace h : ((18 ≤ x5 → Φ x3) ∧ (¬ (18 ≤ x5) → S_Plan_turnsBy M x1 x2 x5 (fun r7 => ((r7 < x4 → D_Plan_bestGear_44 M Φ rec_10 (x1, x2, x5, r7, x5)) ∧ (¬ (r7 < x4) → D_Plan_bestGear_44 M Φ rec_10 (x1, x2, x3, x4, x5)))))) := h
  refine WP.blk [(.iload 5, 2, (0, 0), .null), (.bipush 18, 2, (0, 0), .int 18)] (G := True) (c' := (14, [some (.ref 34), some (.int x1), some (.int x2), some (.int x3), some (.int x4), some (.int x5), none], [.int 18, .int x5], M)) (by decide +kernel) rfl trivial ?_
  refine WP.br (.if_icmp .ge 36, 3, (50, 0), .null) (by decide +kernel) rfl (fun c6 => ?_) (fun c6 => ?_)
  · replace h := h.1 c6
    refine WP.blk [(.iload_n 3, 1, (0, 0), .null)] (G := True) (c' := (51, [some (.ref 34), some (.int x1), some (.int x2), some (.int x3), some (.int x4), some (.int x5), none], [.int x3], M)) (by decide +kernel) rfl trivial ?_
    exact WP.ret (.ireturn, 1, (0, 0), .null) (rk := 1) (by decide +kernel) (by decide +kernel) rfl trivial (hΦ _ h)
  · replace h := h.2 c6
    refine WP.blk [(.aload_n 0, 1, (0, 0), .null), (.iload_n 1, 1, (0, 0), .null), (.iload_n 2, 1, (0, 0), .null), (.iload 5, 2, (0, 0), .null)] (G := True) (c' := (22, [some (.ref 34), some (.int x1), some (.int x2), some (.int x3), some (.int x4), some (.int x5), none], [.int x5, .int x2, .int x1, .ref 34], M)) (by decide +kernel) rfl trivial ?_
    refine WP.call (.invokevirtual 59, 3, (92, 4), .retAddr 2) (by decide +kernel) rfl (sp_Plan_turnsBy (d := d + 0) h (fun r7 h => ?_))
    show WP (Ct (d + 3)) 91 Post (25, [some (.ref 34), some (.int x1), some (.int x2), some (.int x3), some (.int x4), some (.int x5), none], [.int r7], M)
    refine WP.blk [(.istore 6, 2, (0, 0), .null), (.iload 6, 2, (0, 0), .null), (.iload 4, 2, (0, 0), .null)] (G := True) (c' := (31, [some (.ref 34), some (.int x1), some (.int x2), some (.int x3), some (.int x4), some (.int x5), some (.int r7)], [.int x4, .int r7], M)) (by decide +kernel) rfl trivial ?_
    refine WP.br (.if_icmp .lt 6, 3, (37, 0), .null) (by decide +kernel) rfl (fun c8 => ?_) (fun c8 => ?_)
    · replace h := h.1 c8
      refine WP.blk [(.iload 6, 2, (0, 0), .null), (.istore 4, 2, (0, 0), .null), (.iload 5, 2, (0, 0), .null), (.istore_n 3, 1, (0, 0), .null)] (G := True) (c' := (44, [some (.ref 34), some (.int x1), some (.int x2), some (.int x5), some (.int r7), some (.int x5), some (.int r7)], [], M)) (by decide +kernel) rfl trivial ?_
      refine WP.fgt [some (.ref 34), some (.int x1), some (.int x2), some (.int x5), some (.int r7), some (.int x5), none] (by simp [fgt]) ?_
      exact L_Plan_bestGear_44 hΦ hrec_10 _ _ _ _ _ h
    · replace h := h.2 c8
      refine WP.blk [(.goto 10, 3, (44, 0), .null)] (G := True) (c' := (44, [some (.ref 34), some (.int x1), some (.int x2), some (.int x3), some (.int x4), some (.int x5), some (.int r7)], [], M)) (by decide +kernel) rfl trivial ?_
      refine WP.fgt [some (.ref 34), some (.int x1), some (.int x2), some (.int x3), some (.int x4), some (.int x5), none] (by simp [fgt]) ?_
      exact L_Plan_bestGear_44 hΦ hrec_10 _ _ _ _ _ h
theorem P_Plan_bestGear_10 {d : Nat} {Post : Option Value → Mm → Prop} {M : Mm} {Φ : Int32 → Prop} (hΦ : ∀ r, Φ r → Post (some (.int r)) M) : ∀ (n : Nat) (x1 : Int32) (x2 : Int32) (x3 : Int32) (x4 : Int32) (x5 : Int32), lp (D_Plan_bestGear_10 M Φ) n (x1, x2, x3, x4, x5) → WP (Ct (d + 3)) 91 Post (10, [some (.ref 34), some (.int x1), some (.int x2), some (.int x3), some (.int x4), some (.int x5), none], [], M)
  | 0, x1, x2, x3, x4, x5, h => absurd h (by simp [lp])
  | n + 1, x1, x2, x3, x4, x5, h => L_Plan_bestGear_10 hΦ (P_Plan_bestGear_10 hΦ n) x1 x2 x3 x4 x5 h
set_option maxRecDepth 100000 in
set_option maxHeartbeats 4000000 in
theorem sp_Plan_bestGear {d : Nat} {Post : Option Value → Mm → Prop} {M : Mm} {a1 : Int32} {a2 : Int32} {Φ : Int32 → Prop} (h : S_Plan_bestGear M a1 a2 Φ) (hΦ : ∀ r, Φ r → Post (some (.int r)) M) : Ct (d + 4) 91 [.ref 34, .int a1, .int a2] M Post := by
  refine Ct.go (n := 7) (E := [some (.ref 34), some (.int a1), some (.int a2), none, none, none, none]) (by decide +kernel) (by simp [Value.category]) rfl ?_
  refine WP.blk [(.ldc 43, 2, (0, 0), .int (-1000000)), (.istore_n 3, 1, (0, 0), .null), (.ldc 42, 2, (0, 0), .int (1000000000)), (.istore 4, 2, (0, 0), .null), (.iconst 0, 1, (0, 0), .int 0), (.istore 5, 2, (0, 0), .null)] (G := True) (c' := (10, [some (.ref 34), some (.int a1), some (.int a2), some (.int (-1000000)), some (.int 1000000000), some (.int 0), none], [], M)) (by decide +kernel) rfl trivial ?_
  obtain ⟨n, h⟩ := h
  exact P_Plan_bestGear_10 hΦ n _ _ _ _ _ h
/-- GearRoad$Planner.turnsOnward(LGearRoad$Bike;II)I -/
def S_Plan_turnsOnward (M : Mm) (a1 : Int32) (a2 : Int32) (Φ : Int32 → Prop) : Prop := ((a1 < (M 7 3) → S_Plan_bestGear M a1 a2 (fun r2 => ((r2 = (-1000000) → Φ 1000000000) ∧ (¬ (r2 = (-1000000)) → S_Plan_turnsBy M a1 a2 r2 (fun r4 => Φ r4))))) ∧ (¬ (a1 < (M 7 3)) → Φ 0))
set_option maxRecDepth 100000 in
set_option maxHeartbeats 4000000 in
theorem sp_Plan_turnsOnward {d : Nat} {Post : Option Value → Mm → Prop} {M : Mm} {a1 : Int32} {a2 : Int32} {Φ : Int32 → Prop} (h : S_Plan_turnsOnward M a1 a2 Φ) (hΦ : ∀ r, Φ r → Post (some (.int r)) M) : Ct (d + 5) 90 [.ref 34, .ref 7, .int a1, .int a2] M Post := by
  refine Ct.go (n := 5) (E := [some (.ref 34), some (.ref 7), some (.int a1), some (.int a2), none]) (by decide +kernel) (by simp [Value.category]) rfl ?_
  refine WP.blk [(.iload_n 2, 1, (0, 0), .null), (.aload_n 1, 1, (0, 0), .null), (.getfield 22, 3, (1, 3), .null)] (G := True) (c' := (5, [some (.ref 34), some (.ref 7), some (.int a1), some (.int a2), none], [.int (M 7 3), .int a1], M)) (by decide +kernel) rfl trivial ?_
  refine WP.br (.if_icmp .lt 5, 3, (10, 0), .null) (by decide +kernel) rfl (fun c1 => ?_) (fun c1 => ?_)
  · replace h := h.1 c1
    refine WP.blk [(.aload_n 0, 1, (0, 0), .null), (.iload_n 2, 1, (0, 0), .null), (.iload_n 3, 1, (0, 0), .null)] (G := True) (c' := (13, [some (.ref 34), some (.ref 7), some (.int a1), some (.int a2), none], [.int a2, .int a1, .ref 34], M)) (by decide +kernel) rfl trivial ?_
    refine WP.call (.invokevirtual 44, 3, (91, 3), .retAddr 2) (by decide +kernel) rfl (sp_Plan_bestGear (d := d + 0) h (fun r2 h => ?_))
    show WP (Ct (d + 4)) 90 Post (16, [some (.ref 34), some (.ref 7), some (.int a1), some (.int a2), none], [.int r2], M)
    refine WP.blk [(.istore 4, 2, (0, 0), .null), (.iload 4, 2, (0, 0), .null), (.ldc 43, 2, (0, 0), .int (-1000000))] (G := True) (c' := (22, [some (.ref 34), some (.ref 7), some (.int a1), some (.int a2), some (.int r2)], [.int (-1000000), .int r2], M)) (by decide +kernel) rfl trivial ?_
    refine WP.br (.if_icmp .ne 8, 3, (30, 0), .null) (by decide +kernel) rfl (fun c3 => ?_) (fun c3 => ?_)
    · replace h := h.2 c3
      refine WP.blk [(.aload_n 0, 1, (0, 0), .null), (.iload_n 2, 1, (0, 0), .null), (.iload_n 3, 1, (0, 0), .null), (.iload 4, 2, (0, 0), .null)] (G := True) (c' := (35, [some (.ref 34), some (.ref 7), some (.int a1), some (.int a2), some (.int r2)], [.int r2, .int a2, .int a1, .ref 34], M)) (by decide +kernel) rfl trivial ?_
      refine WP.call (.invokevirtual 59, 3, (92, 4), .retAddr 2) (by decide +kernel) rfl (sp_Plan_turnsBy (d := d + 1) h (fun r4 h => ?_))
      show WP (Ct (d + 4)) 90 Post (38, [some (.ref 34), some (.ref 7), some (.int a1), some (.int a2), some (.int r2)], [.int r4], M)
      exact WP.ret (.ireturn, 1, (0, 0), .null) (rk := 1) (by decide +kernel) (by decide +kernel) rfl trivial (hΦ _ h)
    · replace h := h.1 (Classical.not_not.mp c3)
      refine WP.blk [(.ldc 42, 2, (0, 0), .int (1000000000)), (.goto 11, 3, (38, 0), .null)] (G := True) (c' := (38, [some (.ref 34), some (.ref 7), some (.int a1), some (.int a2), some (.int r2)], [.int 1000000000], M)) (by decide +kernel) rfl trivial ?_
      exact WP.ret (.ireturn, 1, (0, 0), .null) (rk := 1) (by decide +kernel) (by decide +kernel) rfl trivial (hΦ _ h)
  · replace h := h.2 c1
    refine WP.blk [(.iconst 0, 1, (0, 0), .int 0)] (G := True) (c' := (9, [some (.ref 34), some (.ref 7), some (.int a1), some (.int a2), none], [.int 0], M)) (by decide +kernel) rfl trivial ?_
    exact WP.ret (.ireturn, 1, (0, 0), .null) (rk := 1) (by decide +kernel) (by decide +kernel) rfl trivial (hΦ _ h)
/-- GearRoad$Planner.turnsFromRide(LGearRoad$Bike;II)I -/
def S_Plan_turnsFromRide (M : Mm) (a1 : Int32) (a2 : Int32) (Φ : Int32 → Prop) : Prop := vp_in a1 6 ∧ S_Bike_bears 7 M a2 (M 12 (Int32.toNatClampNeg a1)) (fun r1 => ((r1 = 0 → Φ 1000000000) ∧ (¬ (r1 = 0) → S_Plan_turnsOnward M (a1 + 1) a2 (fun r3 => ((r3 = 1000000000 → Φ 1000000000) ∧ (¬ (r3 = 1000000000) → S_Bike_turnsOf 7 M a2 (fun r5 => Φ (r5 + r3))))))))
set_option maxRecDepth 100000 in
set_option maxHeartbeats 4000000 in
theorem sp_Plan_turnsFromRide {d : Nat} {Post : Option Value → Mm → Prop} {M : Mm} {a1 : Int32} {a2 : Int32} {Φ : Int32 → Prop} (h : S_Plan_turnsFromRide M a1 a2 Φ) (hΦ : ∀ r, Φ r → Post (some (.int r)) M) : Ct (d + 6) 89 [.ref 34, .ref 7, .int a1, .int a2] M Post := by
  refine Ct.go (n := 5) (E := [some (.ref 34), some (.ref 7), some (.int a1), some (.int a2), none]) (by decide +kernel) (by simp [Value.category]) rfl ?_
  refine WP.blk [(.aload_n 1, 1, (0, 0), .null), (.iload_n 3, 1, (0, 0), .null), (.aload_n 1, 1, (0, 0), .null), (.getfield 48, 3, (1, 13), .null), (.iload_n 2, 1, (0, 0), .null), (.iaload, 1, (0, 0), .null)] (G := vp_in a1 6 ∧ True) (c' := (8, [some (.ref 34), some (.ref 7), some (.int a1), some (.int a2), none], [.int (M 12 (Int32.toNatClampNeg a1)), .int a2, .ref 7], M)) (by decide +kernel) rfl ⟨h.1, trivial⟩ ?_
  replace h := h.2
  refine WP.call (.invokevirtual 51, 3, (47, 3), .retAddr 1) (by decide +kernel) rfl (sp_Bike_bears (d := d + 0) (by decide) h (fun r1 h => ?_))
  show WP (Ct (d + 5)) 89 Post (11, [some (.ref 34), some (.ref 7), some (.int a1), some (.int a2), none], [.int r1], M)
  refine WP.br (.ifCond .ne 6, 3, (17, 0), .null) (by decide +kernel) rfl (fun c2 => ?_) (fun c2 => ?_)
  · replace h := h.2 c2
    refine WP.blk [(.aload_n 0, 1, (0, 0), .null), (.aload_n 1, 1, (0, 0), .null), (.iload_n 2, 1, (0, 0), .null), (.iconst 1, 1, (0, 0), .int 1), (.iadd, 1, (0, 0), .null), (.iload_n 3, 1, (0, 0), .null)] (G := True) (c' := (23, [some (.ref 34), some (.ref 7), some (.int a1), some (.int a2), none], [.int a2, .int (a1 + 1), .ref 7, .ref 34], M)) (by decide +kernel) rfl trivial ?_
    refine WP.call (.invokevirtual 39, 3, (90, 4), .retAddr 2) (by decide +kernel) rfl (sp_Plan_turnsOnward (d := d + 0) h (fun r3 h => ?_))
    show WP (Ct (d + 5)) 89 Post (26, [some (.ref 34), some (.ref 7), some (.int a1), some (.int a2), none], [.int r3], M)
    refine WP.blk [(.istore 4, 2, (0, 0), .null), (.iload 4, 2, (0, 0), .null), (.ldc 42, 2, (0, 0), .int (1000000000))] (G := True) (c' := (32, [some (.ref 34), some (.ref 7), some (.int a1), some (.int a2), some (.int r3)], [.int 1000000000, .int r3], M)) (by decide +kernel) rfl trivial ?_
    refine WP.br (.if_icmp .ne 8, 3, (40, 0), .null) (by decide +kernel) rfl (fun c4 => ?_) (fun c4 => ?_)
    · replace h := h.2 c4
      refine WP.blk [(.aload_n 1, 1, (0, 0), .null), (.iload_n 3, 1, (0, 0), .null)] (G := True) (c' := (42, [some (.ref 34), some (.ref 7), some (.int a1), some (.int a2), some (.int r3)], [.int a2, .ref 7], M)) (by decide +kernel) rfl trivial ?_
      refine WP.call (.invokevirtual 55, 3, (56, 2), .retAddr 1) (by decide +kernel) rfl (sp_Bike_turnsOf (d := d + 1) (by decide) h (fun r5 h => ?_))
      show WP (Ct (d + 5)) 89 Post (45, [some (.ref 34), some (.ref 7), some (.int a1), some (.int a2), some (.int r3)], [.int r5], M)
      refine WP.blk [(.iload 4, 2, (0, 0), .null), (.iadd, 1, (0, 0), .null)] (G := True) (c' := (48, [some (.ref 34), some (.ref 7), some (.int a1), some (.int a2), some (.int r3)], [.int (r5 + r3)], M)) (by decide +kernel) rfl trivial ?_
      exact WP.ret (.ireturn, 1, (0, 0), .null) (rk := 1) (by decide +kernel) (by decide +kernel) rfl trivial (hΦ _ h)
    · replace h := h.1 (Classical.not_not.mp c4)
      refine WP.blk [(.ldc 42, 2, (0, 0), .int (1000000000)), (.goto 11, 3, (48, 0), .null)] (G := True) (c' := (48, [some (.ref 34), some (.ref 7), some (.int a1), some (.int a2), some (.int r3)], [.int 1000000000], M)) (by decide +kernel) rfl trivial ?_
      exact WP.ret (.ireturn, 1, (0, 0), .null) (rk := 1) (by decide +kernel) (by decide +kernel) rfl trivial (hΦ _ h)
  · replace h := h.1 (Classical.not_not.mp c2)
    refine WP.blk [(.ldc 42, 2, (0, 0), .int (1000000000))] (G := True) (c' := (16, [some (.ref 34), some (.ref 7), some (.int a1), some (.int a2), none], [.int 1000000000], M)) (by decide +kernel) rfl trivial ?_
    exact WP.ret (.ireturn, 1, (0, 0), .null) (rk := 1) (by decide +kernel) (by decide +kernel) rfl trivial (hΦ _ h)
/-- GearRoad$Planner.foreseeTurns(LGearRoad$Bike;)V -/
def D_Plan_foreseeTurns_22 (Φ : Mm → Prop) (rec_12 : Int32 × Mm → Prop) (rec_22 : Int32 × Int32 × Mm → Prop) : Int32 × Int32 × Mm → Prop
  | (x1, x2, M) => ((18 ≤ x2 → rec_12 ((x1 + (-1)), M)) ∧ (¬ (18 ≤ x2) → S_Plan_turnsFromRide M x1 x2 (fun r4 => vp_in ((x1 * 18) + x2) 108 ∧ (∀ M5, M5 = mu M 36 (Int32.toNatClampNeg ((x1 * 18) + x2)) r4 → rec_22 (x1, (x2 + 1), M5)))))
def D_Plan_foreseeTurns_12 (Φ : Mm → Prop) (rec_12 : Int32 × Mm → Prop) : Int32 × Mm → Prop
  | (x1, M) => ((x1 < (M 7 7) → Φ M) ∧ (¬ (x1 < (M 7 7)) → ∃ n, lp (D_Plan_foreseeTurns_22 Φ rec_12) n (x1, 0, M)))
def S_Plan_foreseeTurns (M : Mm) (Φ : Mm → Prop) : Prop := S_Plan_learnCosts M (fun M1 => ∃ n, lp (D_Plan_foreseeTurns_12 Φ) n (((M1 7 3) - 1), M1))
set_option maxRecDepth 100000 in
set_option maxHeartbeats 4000000 in
theorem L_Plan_foreseeTurns_22 {d : Nat} {Post : Option Value → Mm → Prop} {rec_12 : Int32 × Mm → Prop} {rec_22 : Int32 × Int32 × Mm → Prop} {Φ : Mm → Prop} (hΦ : ∀ M1, Φ M1 → Post none M1) (hrec_12 : ∀ (x1 : Int32) (M : Mm), rec_12 (x1, M) → WP (Ct (d + 6)) 86 Post (12, [some (.ref 34), some (.ref 7), some (.int x1), none], [], M)) (hrec_22 : ∀ (x1 : Int32) (x2 : Int32) (M : Mm), rec_22 (x1, x2, M) → WP (Ct (d + 6)) 86 Post (22, [some (.ref 34), some (.ref 7), some (.int x1), some (.int x2)], [], M)) : ∀ (x1 : Int32) (x2 : Int32) (M : Mm), D_Plan_foreseeTurns_22 Φ rec_12 rec_22 (x1, x2, M) → WP (Ct (d + 6)) 86 Post (22, [some (.ref 34), some (.ref 7), some (.int x1), some (.int x2)], [], M) := by
  intro x1 x2 M h
  replace h : ((18 ≤ x2 → rec_12 ((x1 + (-1)), M)) ∧ (¬ (18 ≤ x2) → S_Plan_turnsFromRide M x1 x2 (fun r4 => vp_in ((x1 * 18) + x2) 108 ∧ (∀ M5, M5 = mu M 36 (Int32.toNatClampNeg ((x1 * 18) + x2)) r4 → rec_22 (x1, (x2 + 1), M5))))) := h
  refine WP.blk [(.iload_n 3, 1, (0, 0), .null), (.bipush 18, 2, (0, 0), .int 18)] (G := True) (c' := (25, [some (.ref 34), some (.ref 7), some (.int x1), some (.int x2)], [.int 18, .int x2], M)) (by decide +kernel) rfl trivial ?_
  refine WP.br (.if_icmp .ge 27, 3, (52, 0), .null) (by decide +kernel) rfl (fun c3 => ?_) (fun c3 => ?_)
  · replace h := h.1 c3
    refine WP.blk [(.iinc 2 (-1), 3, (0, 0), .int (-1)), (.goto (-43), 3, (12, 0), .null)] (G := True) (c' := (12, [some (.ref 34), some (.ref 7), some (.int (x1 + (-1))), some (.int x2)], [], M)) (by decide +kernel) rfl trivial ?_
    refine WP.fgt [some (.ref 34), some (.ref 7), some (.int (x1 + (-1))), none] (by simp [fgt]) ?_
    exact hrec_12 _ _ h
  · replace h := h.2 c3
    refine WP.blk [(.aload_n 0, 1, (0, 0), .null), (.getfield 15, 3, (2, 1), .null), (.iload_n 2, 1, (0, 0), .null), (.bipush 18, 2, (0, 0), .int 18), (.imul, 1, (0, 0), .null), (.iload_n 3, 1, (0, 0), .null), (.iadd, 1, (0, 0), .null), (.aload_n 0, 1, (0, 0), .null), (.aload_n 1, 1, (0, 0), .null), (.iload_n 2, 1, (0, 0), .null), (.iload_n 3, 1, (0, 0), .null)] (G := True) (c' := (42, [some (.ref 34), some (.ref 7), some (.int x1), some (.int x2)], [.int x2, .int x1, .ref 7, .ref 34, .int ((x1 * 18) + x2), .ref 36], M)) (by decide +kernel) rfl trivial ?_
    refine WP.call (.invokevirtual 31, 3, (89, 4), .retAddr 2) (by decide +kernel) rfl (sp_Plan_turnsFromRide (d := d + 0) h (fun r4 h => ?_))
    show WP (Ct (d + 6)) 86 Post (45, [some (.ref 34), some (.ref 7), some (.int x1), some (.int x2)], [.int r4, .int ((x1 * 18) + x2), .ref 36], M)
    refine WP.blk [(.iastore, 1, (0, 0), .null)] (G := vp_in ((x1 * 18) + x2) 108 ∧ True) (c' := (46, [some (.ref 34), some (.ref 7), some (.int x1), some (.int x2)], [], (mu M 36 (Int32.toNatClampNeg ((x1 * 18) + x2)) r4))) (by decide +kernel) rfl ⟨h.1, trivial⟩ ?_
    replace h := h.2
    replace h := h (mu M 36 (Int32.toNatClampNeg ((x1 * 18) + x2)) r4) rfl
    generalize (mu M 36 (Int32.toNatClampNeg ((x1 * 18) + x2)) r4) = M5 at h ⊢
    refine WP.blk [(.iinc 3 1, 3, (0, 0), .int 1), (.goto (-27), 3, (22, 0), .null)] (G := True) (c' := (22, [some (.ref 34), some (.ref 7), some (.int x1), some (.int (x2 + 1))], [], M5)) (by decide +kernel) rfl trivial ?_
    exact hrec_22 _ _ _ h
theorem P_Plan_foreseeTurns_22 {d : Nat} {Post : Option Value → Mm → Prop} {rec_12 : Int32 × Mm → Prop} {Φ : Mm → Prop} (hΦ : ∀ M1, Φ M1 → Post none M1) (hrec_12 : ∀ (x1 : Int32) (M : Mm), rec_12 (x1, M) → WP (Ct (d + 6)) 86 Post (12, [some (.ref 34), some (.ref 7), some (.int x1), none], [], M)) : ∀ (n : Nat) (x1 : Int32) (x2 : Int32) (M : Mm), lp (D_Plan_foreseeTurns_22 Φ rec_12) n (x1, x2, M) → WP (Ct (d + 6)) 86 Post (22, [some (.ref 34), some (.ref 7), some (.int x1), some (.int x2)], [], M)
  | 0, x1, x2, M, h => absurd h (by simp [lp])
  | n + 1, x1, x2, M, h => L_Plan_foreseeTurns_22 hΦ hrec_12 (P_Plan_foreseeTurns_22 hΦ hrec_12 n) x1 x2 M h
set_option maxRecDepth 100000 in
set_option maxHeartbeats 4000000 in
theorem L_Plan_foreseeTurns_12 {d : Nat} {Post : Option Value → Mm → Prop} {rec_12 : Int32 × Mm → Prop} {Φ : Mm → Prop} (hΦ : ∀ M1, Φ M1 → Post none M1) (hrec_12 : ∀ (x1 : Int32) (M : Mm), rec_12 (x1, M) → WP (Ct (d + 6)) 86 Post (12, [some (.ref 34), some (.ref 7), some (.int x1), none], [], M)) : ∀ (x1 : Int32) (M : Mm), D_Plan_foreseeTurns_12 Φ rec_12 (x1, M) → WP (Ct (d + 6)) 86 Post (12, [some (.ref 34), some (.ref 7), some (.int x1), none], [], M) := by
  intro x1 M h
  replace h : ((x1 < (M 7 7) → Φ M) ∧ (¬ (x1 < (M 7 7)) → ∃ n, lp (D_Plan_foreseeTurns_22 Φ rec_12) n (x1, 0, M))) := h
  refine WP.blk [(.iload_n 2, 1, (0, 0), .null), (.aload_n 1, 1, (0, 0), .null), (.getfield 28, 3, (1, 7), .null)] (G := True) (c' := (17, [some (.ref 34), some (.ref 7), some (.int x1), none], [.int (M 7 7), .int x1], M)) (by decide +kernel) rfl trivial ?_
  refine WP.br (.if_icmp .lt 41, 3, (58, 0), .null) (by decide +kernel) rfl (fun c2 => ?_) (fun c2 => ?_)
  · replace h := h.1 c2
    exact WP.ret (.return_, 1, (0, 0), .null) (rk := 0) (by decide +kernel) (by decide +kernel) rfl trivial (hΦ _ h)
  · replace h := h.2 c2
    refine WP.blk [(.iconst 0, 1, (0, 0), .int 0), (.istore_n 3, 1, (0, 0), .null)] (G := True) (c' := (22, [some (.ref 34), some (.ref 7), some (.int x1), some (.int 0)], [], M)) (by decide +kernel) rfl trivial ?_
    obtain ⟨n, h⟩ := h
    exact P_Plan_foreseeTurns_22 hΦ hrec_12 n _ _ _ h
theorem P_Plan_foreseeTurns_12 {d : Nat} {Post : Option Value → Mm → Prop} {Φ : Mm → Prop} (hΦ : ∀ M1, Φ M1 → Post none M1) : ∀ (n : Nat) (x1 : Int32) (M : Mm), lp (D_Plan_foreseeTurns_12 Φ) n (x1, M) → WP (Ct (d + 6)) 86 Post (12, [some (.ref 34), some (.ref 7), some (.int x1), none], [], M)
  | 0, x1, M, h => absurd h (by simp [lp])
  | n + 1, x1, M, h => L_Plan_foreseeTurns_12 hΦ (P_Plan_foreseeTurns_12 hΦ n) x1 M h
set_option maxRecDepth 100000 in
set_option maxHeartbeats 4000000 in
theorem sp_Plan_foreseeTurns {d : Nat} {Post : Option Value → Mm → Prop} {M : Mm} {Φ : Mm → Prop} (h : S_Plan_foreseeTurns M Φ) (hΦ : ∀ M1, Φ M1 → Post none M1) : Ct (d + 7) 86 [.ref 34, .ref 7] M Post := by
  refine Ct.go (n := 4) (E := [some (.ref 34), some (.ref 7), none, none]) (by decide +kernel) (by simp [Value.category]) rfl ?_
  refine WP.blk [(.aload_n 0, 1, (0, 0), .null), (.aload_n 1, 1, (0, 0), .null)] (G := True) (c' := (2, [some (.ref 34), some (.ref 7), none, none], [.ref 7, .ref 34], M)) (by decide +kernel) rfl trivial ?_
  refine WP.call (.invokevirtual 18, 3, (87, 2), .retAddr 2) (by decide +kernel) rfl (sp_Plan_learnCosts (d := d + 3) h (fun M1 h => ?_))
  show WP (Ct (d + 6)) 86 Post (5, [some (.ref 34), some (.ref 7), none, none], [], M1)
  refine WP.blk [(.aload_n 1, 1, (0, 0), .null), (.getfield 22, 3, (1, 3), .null), (.iconst 1, 1, (0, 0), .int 1), (.isub, 1, (0, 0), .null), (.istore_n 2, 1, (0, 0), .null)] (G := True) (c' := (12, [some (.ref 34), some (.ref 7), some (.int ((M1 7 3) - 1)), none], [], M1)) (by decide +kernel) rfl trivial ?_
  obtain ⟨n, h⟩ := h
  exact P_Plan_foreseeTurns_12 hΦ n _ _ h
/-- GearRoad$Planner.fewestTurns(LGearRoad$Bike;)I -/
def S_Plan_fewestTurns (M : Mm) (Φ : Int32 → Prop) : Prop := S_Bike_gear 7 M (fun r1 => S_Plan_turnsOnward M (M 7 7) r1 (fun r2 => ((r2 = 1000000000 → Φ (-1000000)) ∧ (¬ (r2 = 1000000000) → Φ r2))))
set_option maxRecDepth 100000 in
set_option maxHeartbeats 4000000 in
theorem sp_Plan_fewestTurns {d : Nat} {Post : Option Value → Mm → Prop} {M : Mm} {Φ : Int32 → Prop} (h : S_Plan_fewestTurns M Φ) (hΦ : ∀ r, Φ r → Post (some (.int r)) M) : Ct (d + 6) 93 [.ref 34, .ref 7] M Post := by
  refine Ct.go (n := 3) (E := [some (.ref 34), some (.ref 7), none]) (by decide +kernel) (by simp [Value.category]) rfl ?_
  refine WP.blk [(.aload_n 0, 1, (0, 0), .null), (.aload_n 1, 1, (0, 0), .null), (.aload_n 1, 1, (0, 0), .null), (.getfield 28, 3, (1, 7), .null), (.aload_n 1, 1, (0, 0), .null)] (G := True) (c' := (7, [some (.ref 34), some (.ref 7), none], [.ref 7, .int (M 7 7), .ref 7, .ref 34], M)) (by decide +kernel) rfl trivial ?_
  refine WP.call (.invokevirtual 35, 3, (46, 1), .retAddr 1) (by decide +kernel) rfl (sp_Bike_gear (d := d + 4) (by decide) h (fun r1 h => ?_))
  show WP (Ct (d + 5)) 93 Post (10, [some (.ref 34), some (.ref 7), none], [.int r1, .int (M 7 7), .ref 7, .ref 34], M)
  refine WP.call (.invokevirtual 39, 3, (90, 4), .retAddr 2) (by decide +kernel) rfl (sp_Plan_turnsOnward (d := d + 0) h (fun r2 h => ?_))
  show WP (Ct (d + 5)) 93 Post (13, [some (.ref 34), some (.ref 7), none], [.int r2], M)
  refine WP.blk [(.istore_n 2, 1, (0, 0), .null), (.iload_n 2, 1, (0, 0), .null), (.ldc 42, 2, (0, 0), .int (1000000000))] (G := True) (c' := (17, [some (.ref 34), some (.ref 7), some (.int r2)], [.int 1000000000, .int r2], M)) (by decide +kernel) rfl trivial ?_
  refine WP.br (.if_icmp .ne 8, 3, (25, 0), .null) (by decide +kernel) rfl (fun c3 => ?_) (fun c3 => ?_)
  · replace h := h.2 c3
    refine WP.blk [(.iload_n 2, 1, (0, 0), .null)] (G := True) (c' := (26, [some (.ref 34), some (.ref 7), some (.int r2)], [.int r2], M)) (by decide +kernel) rfl trivial ?_
    exact WP.ret (.ireturn, 1, (0, 0), .null) (rk := 1) (by decide +kernel) (by decide +kernel) rfl trivial (hΦ _ h)
  · replace h := h.1 (Classical.not_not.mp c3)
    refine WP.blk [(.ldc 43, 2, (0, 0), .int (-1000000)), (.goto 4, 3, (26, 0), .null)] (G := True) (c' := (26, [some (.ref 34), some (.ref 7), some (.int r2)], [.int (-1000000)], M)) (by decide +kernel) rfl trivial ?_
    exact WP.ret (.ireturn, 1, (0, 0), .null) (rk := 1) (by decide +kernel) (by decide +kernel) rfl trivial (hΦ _ h)
/-- GearRoad$Planner.gearAhead(LGearRoad$Bike;I)I -/
def D_Plan_gearAhead_24 (M : Mm) (Φ : Int32 → Prop) (rec_24 : Int32 × Int32 × Int32 → Prop) : Int32 × Int32 × Int32 → Prop
  | (x1, x2, x3) => ((x1 < x3 → Φ x2) ∧ (¬ (x1 < x3) → ((x2 = (-1000000) → Φ x2) ∧ (¬ (x2 = (-1000000)) → S_Plan_bestGear M ((M 7 7) + x3) x2 (fun r6 => rec_24 (x1, r6, (x3 + 1)))))))
def S_Plan_gearAhead (M : Mm) (a1 : Int32) (Φ : Int32 → Prop) : Prop := ((a1 < ((M 7 3) - (M 7 7)) → S_Bike_gear 7 M (fun r2 => ∃ n, lp (D_Plan_gearAhead_24 M Φ) n (a1, r2, 0))) ∧ (¬ (a1 < ((M 7 3) - (M 7 7))) → Φ (-1000000)))
set_option maxRecDepth 100000 in
set_option maxHeartbeats 4000000 in
theorem L_Plan_gearAhead_24 {d : Nat} {Post : Option Value → Mm → Prop} {M : Mm} {rec_24 : Int32 × Int32 × Int32 → Prop} {Φ : Int32 → Prop} (hΦ : ∀ r, Φ r → Post (some (.int r)) M) (hrec_24 : ∀ (x1 : Int32) (x2 : Int32) (x3 : Int32), rec_24 (x1, x2, x3) → WP (Ct (d + 4)) 94 Post (24, [some (.ref 34), some (.ref 7), some (.int x1), some (.int x2), some (.int x3)], [], M)) : ∀ (x1 : Int32) (x2 : Int32) (x3 : Int32), D_Plan_gearAhead_24 M Φ rec_24 (x1, x2, x3) → WP (Ct (d + 4)) 94 Post (24, [some (.ref 34), some (.ref 7), some (.int x1), some (.int x2), some (.int x3)], [], M) := by
  intro x1 x2 x3 h
  replace h : ((x1 < x3 → Φ x2) ∧ (¬ (x1 < x3) → ((x2 = (-1000000) → Φ x2) ∧ (¬ (x2 = (-1000000)) → S_Plan_bestGear M ((M 7 7) + x3) x2 (fun r6 => rec_24 (x1, r6, (x3 + 1))))))) := h
  refine WP.blk [(.iload 4, 2, (0, 0), .null), (.iload_n 2, 1, (0, 0), .null)] (G := True) (c' := (27, [some (.ref 34), some (.ref 7), some (.int x1), some (.int x2), some (.int x3)], [.int x1, .int x3], M)) (by decide +kernel) rfl trivial ?_
  refine WP.br (.if_icmp .gt 28, 3, (55, 0), .null) (by decide +kernel) rfl (fun c4 => ?_) (fun c4 => ?_)
  · replace h := h.1 c4
    refine WP.blk [(.iload_n 3, 1, (0, 0), .null)] (G := True) (c' := (56, [some (.ref 34), some (.ref 7), some (.int x1), some (.int x2), some (.int x3)], [.int x2], M)) (by decide +kernel) rfl trivial ?_
    exact WP.ret (.ireturn, 1, (0, 0), .null) (rk := 1) (by decide +kernel) (by decide +kernel) rfl trivial (hΦ _ h)
  · replace h := h.2 c4
    refine WP.blk [(.iload_n 3, 1, (0, 0), .null), (.ldc 43, 2, (0, 0), .int (-1000000))] (G := True) (c' := (33, [some (.ref 34), some (.ref 7), some (.int x1), some (.int x2), some (.int x3)], [.int (-1000000), .int x2], M)) (by decide +kernel) rfl trivial ?_
    refine WP.br (.if_icmp .eq 22, 3, (55, 0), .null) (by decide +kernel) rfl (fun c5 => ?_) (fun c5 => ?_)
    · replace h := h.1 c5
      refine WP.blk [(.iload_n 3, 1, (0, 0), .null)] (G := True) (c' := (56, [some (.ref 34), some (.ref 7), some (.int x1), some (.int x2), some (.int x3)], [.int x2], M)) (by decide +kernel) rfl trivial ?_
      exact WP.ret (.ireturn, 1, (0, 0), .null) (rk := 1) (by decide +kernel) (by decide +kernel) rfl trivial (hΦ _ h)
    · replace h := h.2 c5
      refine WP.blk [(.aload_n 0, 1, (0, 0), .null), (.aload_n 1, 1, (0, 0), .null), (.getfield 28, 3, (1, 7), .null), (.iload 4, 2, (0, 0), .null), (.iadd, 1, (0, 0), .null), (.iload_n 3, 1, (0, 0), .null)] (G := True) (c' := (45, [some (.ref 34), some (.ref 7), some (.int x1), some (.int x2), some (.int x3)], [.int x2, .int ((M 7 7) + x3), .ref 34], M)) (by decide +kernel) rfl trivial ?_
      refine WP.call (.invokevirtual 44, 3, (91, 3), .retAddr 2) (by decide +kernel) rfl (sp_Plan_bestGear (d := d + 0) h (fun r6 h => ?_))
      show WP (Ct (d + 4)) 94 Post (48, [some (.ref 34), some (.ref 7), some (.int x1), some (.int x2), some (.int x3)], [.int r6], M)
      refine WP.blk [(.istore_n 3, 1, (0, 0), .null), (.iinc 4 1, 3, (0, 0), .int 1), (.goto (-28), 3, (24, 0), .null)] (G := True) (c' := (24, [some (.ref 34), some (.ref 7), some (.int x1), some (.int r6), some (.int (x3 + 1))], [], M)) (by decide +kernel) rfl trivial ?_
      exact hrec_24 _ _ _ h
theorem P_Plan_gearAhead_24 {d : Nat} {Post : Option Value → Mm → Prop} {M : Mm} {Φ : Int32 → Prop} (hΦ : ∀ r, Φ r → Post (some (.int r)) M) : ∀ (n : Nat) (x1 : Int32) (x2 : Int32) (x3 : Int32), lp (D_Plan_gearAhead_24 M Φ) n (x1, x2, x3) → WP (Ct (d + 4)) 94 Post (24, [some (.ref 34), some (.ref 7), some (.int x1), some (.int x2), some (.int x3)], [], M)
  | 0, x1, x2, x3, h => absurd h (by simp [lp])
  | n + 1, x1, x2, x3, h => L_Plan_gearAhead_24 hΦ (P_Plan_gearAhead_24 hΦ n) x1 x2 x3 h
set_option maxRecDepth 100000 in
set_option maxHeartbeats 4000000 in
theorem sp_Plan_gearAhead {d : Nat} {Post : Option Value → Mm → Prop} {M : Mm} {a1 : Int32} {Φ : Int32 → Prop} (h : S_Plan_gearAhead M a1 Φ) (hΦ : ∀ r, Φ r → Post (some (.int r)) M) : Ct (d + 5) 94 [.ref 34, .ref 7, .int a1] M Post := by
  refine Ct.go (n := 5) (E := [some (.ref 34), some (.ref 7), some (.int a1), none, none]) (by decide +kernel) (by simp [Value.category]) rfl ?_
  refine WP.blk [(.iload_n 2, 1, (0, 0), .null), (.aload_n 1, 1, (0, 0), .null), (.getfield 22, 3, (1, 3), .null), (.aload_n 1, 1, (0, 0), .null), (.getfield 28, 3, (1, 7), .null), (.isub, 1, (0, 0), .null)] (G := True) (c' := (10, [some (.ref 34), some (.ref 7), some (.int a1), none, none], [.int ((M 7 3) - (M 7 7)), .int a1], M)) (by decide +kernel) rfl trivial ?_
  refine WP.br (.if_icmp .lt 6, 3, (16, 0), .null) (by decide +kernel) rfl (fun c1 => ?_) (fun c1 => ?_)
  · replace h := h.1 c1
    refine WP.blk [(.aload_n 1, 1, (0, 0), .null)] (G := True) (c' := (17, [some (.ref 34), some (.ref 7), some (.int a1), none, none], [.ref 7], M)) (by decide +kernel) rfl trivial ?_
    refine WP.call (.invokevirtual 35, 3, (46, 1), .retAddr 1) (by decide +kernel) rfl (sp_Bike_gear (d := d + 3) (by decide) h (fun r2 h => ?_))
    show WP (Ct (d + 4)) 94 Post (20, [some (.ref 34), some (.ref 7), some (.int a1), none, none], [.int r2], M)
    refine WP.blk [(.istore_n 3, 1, (0, 0), .null), (.iconst 0, 1, (0, 0), .int 0), (.istore 4, 2, (0, 0), .null)] (G := True) (c' := (24, [some (.ref 34), some (.ref 7), some (.int a1), some (.int r2), some (.int 0)], [], M)) (by decide +kernel) rfl trivial ?_
    obtain ⟨n, h⟩ := h
    exact P_Plan_gearAhead_24 hΦ n _ _ _ h
  · replace h := h.2 c1
    refine WP.blk [(.ldc 43, 2, (0, 0), .int (-1000000))] (G := True) (c' := (15, [some (.ref 34), some (.ref 7), some (.int a1), none, none], [.int (-1000000)], M)) (by decide +kernel) rfl trivial ?_
    exact WP.ret (.ireturn, 1, (0, 0), .null) (rk := 1) (by decide +kernel) (by decide +kernel) rfl trivial (hΦ _ h)
/-- GearRoad$Planner.strainOnward(LGearRoad$Bike;II)I -/
def D_Plan_strainOnward_60 (M : Mm) (Φ : Int32 → Prop) (rec_17 : Int32 × Int32 × Int32 × Int32 → Prop) : Int32 × Int32 × Int32 × Int32 → Prop
  | (x1, x2, x3, x4) => rec_17 (x1, x2, x3, (x4 + 1))
def D_Plan_strainOnward_17 (M : Mm) (Φ : Int32 → Prop) (rec_17 : Int32 × Int32 × Int32 × Int32 → Prop) : Int32 × Int32 × Int32 × Int32 → Prop
  | (x1, x2, x3, x4) => ((18 ≤ x4 → Φ x3) ∧ (¬ (18 ≤ x4) → S_Plan_costPlace M x1 x2 x4 (fun r6 => vp_in r6 72 ∧ (((M 35 (Int32.toNatClampNeg r6)) = (-1000000) → D_Plan_strainOnward_60 M Φ rec_17 (x1, x2, x3, x4)) ∧ (¬ ((M 35 (Int32.toNatClampNeg r6)) = (-1000000)) → vp_in ((x1 * 18) + x4) 108 ∧ S_Math_min M x3 (M 36 (Int32.toNatClampNeg ((x1 * 18) + x4))) (fun r8 => D_Plan_strainOnward_60 M Φ rec_17 (x1, x2, r8, x4)))))))
def S_Plan_strainOnward (M : Mm) (a1 : Int32) (a2 : Int32) (Φ : Int32 → Prop) : Prop := ((a1 < (M 7 3) → ∃ n, lp (D_Plan_strainOnward_17 M Φ) n (a1, a2, 1000000000, 0)) ∧ (¬ (a1 < (M 7 3)) → Φ 1))
set_option maxRecDepth 100000 in
set_option maxHeartbeats 4000000 in
theorem L_Plan_strainOnward_60 {d : Nat} {Post : Option Value → Mm → Prop} {M : Mm} {rec_17 : Int32 × Int32 × Int32 × Int32 → Prop} {Φ : Int32 → Prop} (hΦ : ∀ r, Φ r → Post (some (.int r)) M) (hrec_17 : ∀ (x1 : Int32) (x2 : Int32) (x3 : Int32) (x4 : Int32), rec_17 (x1, x2, x3, x4) → WP (Ct (d + 1)) 98 Post (17, [some (.ref 34), none, some (.int x1), some (.int x2), some (.int x3), some (.int x4)], [], M)) : ∀ (x1 : Int32) (x2 : Int32) (x3 : Int32) (x4 : Int32), D_Plan_strainOnward_60 M Φ rec_17 (x1, x2, x3, x4) → WP (Ct (d + 1)) 98 Post (60, [some (.ref 34), none, some (.int x1), some (.int x2), some (.int x3), some (.int x4)], [], M) := by
  intro x1 x2 x3 x4 h
  replace h : rec_17 (x1, x2, x3, (x4 + 1)) := h
  refine WP.blk [(.iinc 5 1, 3, (0, 0), .int 1), (.goto (-46), 3, (17, 0), .null)] (G := True) (c' := (17, [some (.ref 34), none, some (.int x1), some (.int x2), some (.int x3), some (.int (x4 + 1))], [], M)) (by decide +kernel) rfl trivial ?_
  exact hrec_17 _ _ _ _ h
set_option maxRecDepth 100000 in
set_option maxHeartbeats 4000000 in
theorem L_Plan_strainOnward_17 {d : Nat} {Post : Option Value → Mm → Prop} {M : Mm} {rec_17 : Int32 × Int32 × Int32 × Int32 → Prop} {Φ : Int32 → Prop} (hΦ : ∀ r, Φ r → Post (some (.int r)) M) (hrec_17 : ∀ (x1 : Int32) (x2 : Int32) (x3 : Int32) (x4 : Int32), rec_17 (x1, x2, x3, x4) → WP (Ct (d + 1)) 98 Post (17, [some (.ref 34), none, some (.int x1), some (.int x2), some (.int x3), some (.int x4)], [], M)) : ∀ (x1 : Int32) (x2 : Int32) (x3 : Int32) (x4 : Int32), D_Plan_strainOnward_17 M Φ rec_17 (x1, x2, x3, x4) → WP (Ct (d + 1)) 98 Post (17, [some (.ref 34), none, some (.int x1), some (.int x2), some (.int x3), some (.int x4)], [], M) := by
  intro x1 x2 x3 x4 h
  replace h : ((18 ≤ x4 → Φ x3) ∧ (¬ (18 ≤ x4) → S_Plan_costPlace M x1 x2 x4 (fun r6 => vp_in r6 72 ∧ (((M 35 (Int32.toNatClampNeg r6)) = (-1000000) → D_Plan_strainOnward_60 M Φ rec_17 (x1, x2, x3, x4)) ∧ (¬ ((M 35 (Int32.toNatClampNeg r6)) = (-1000000)) → vp_in ((x1 * 18) + x4) 108 ∧ S_Math_min M x3 (M 36 (Int32.toNatClampNeg ((x1 * 18) + x4))) (fun r8 => D_Plan_strainOnward_60 M Φ rec_17 (x1, x2, r8, x4))))))) := h
  refine WP.blk [(.iload 5, 2, (0, 0), .null), (.bipush 18, 2, (0, 0), .int 18)] (G := True) (c' := (21, [some (.ref 34), none, some (.int x1), some (.int x2), some (.int x3), some (.int x4)], [.int 18, .int x4], M)) (by decide +kernel) rfl trivial ?_
  refine WP.br (.if_icmp .ge 45, 3, (66, 0), .null) (by decide +kernel) rfl (fun c5 => ?_) (fun c5 => ?_)
  · replace h := h.1 c5
    refine WP.blk [(.iload 4, 2, (0, 0), .null)] (G := True) (c' := (68, [some (.ref 34), none, some (.int x1), some (.int x2), some (.int x3), some (.int x4)], [.int x3], M)) (by decide +kernel) rfl trivial ?_
    exact WP.ret (.ireturn, 1, (0, 0), .null) (rk := 1) (by decide +kernel) (by decide +kernel) rfl trivial (hΦ _ h)
  · replace h := h.2 c5
    refine WP.blk [(.aload_n 0, 1, (0, 0), .null), (.getfield 9, 3, (2, 0), .null), (.iload_n 2, 1, (0, 0), .null), (.iload_n 3, 1, (0, 0), .null), (.iload 5, 2, (0, 0), .null)] (G := True) (c' := (32, [some (.ref 34), none, some (.int x1), some (.int x2), some (.int x3), some (.int x4)], [.int x4, .int x2, .int x1, .ref 35], M)) (by decide +kernel) rfl trivial ?_
    refine WP.call (.invokestatic 63, 3, (88, 3), .null) (by decide +kernel) rfl (sp_Plan_costPlace (d := d + 0) h (fun r6 h => ?_))
    show WP (Ct (d + 1)) 98 Post (35, [some (.ref 34), none, some (.int x1), some (.int x2), some (.int x3), some (.int x4)], [.int r6, .ref 35], M)
    refine WP.blk [(.iaload, 1, (0, 0), .null), (.ldc 43, 2, (0, 0), .int (-1000000))] (G := vp_in r6 72 ∧ True) (c' := (38, [some (.ref 34), none, some (.int x1), some (.int x2), some (.int x3), some (.int x4)], [.int (-1000000), .int (M 35 (Int32.toNatClampNeg r6))], M)) (by decide +kernel) rfl ⟨h.1, trivial⟩ ?_
    replace h := h.2
    refine WP.br (.if_icmp .eq 22, 3, (60, 0), .null) (by decide +kernel) rfl (fun c7 => ?_) (fun c7 => ?_)
    · replace h := h.1 c7
      exact L_Plan_strainOnward_60 hΦ hrec_17 _ _ _ _ h
    · replace h := h.2 c7
      refine WP.blk [(.iload 4, 2, (0, 0), .null), (.aload_n 0, 1, (0, 0), .null), (.getfield 15, 3, (2, 1), .null), (.iload_n 2, 1, (0, 0), .null), (.bipush 18, 2, (0, 0), .int 18), (.imul, 1, (0, 0), .null), (.iload 5, 2, (0, 0), .null), (.iadd, 1, (0, 0), .null), (.iaload, 1, (0, 0), .null)] (G := vp_in ((x1 * 18) + x4) 108 ∧ True) (c' := (55, [some (.ref 34), none, some (.int x1), some (.int x2), some (.int x3), some (.int x4)], [.int (M 36 (Int32.toNatClampNeg ((x1 * 18) + x4))), .int x3], M)) (by decide +kernel) rfl ⟨h.1, trivial⟩ ?_
      replace h := h.2
      refine WP.call (.invokestatic 87, 3, (54, 2), .null) (by decide +kernel) rfl (sp_Math_min (d := d + 0) h (fun r8 h => ?_))
      show WP (Ct (d + 1)) 98 Post (58, [some (.ref 34), none, some (.int x1), some (.int x2), some (.int x3), some (.int x4)], [.int r8], M)
      refine WP.blk [(.istore 4, 2, (0, 0), .null)] (G := True) (c' := (60, [some (.ref 34), none, some (.int x1), some (.int x2), some (.int r8), some (.int x4)], [], M)) (by decide +kernel) rfl trivial ?_
      exact L_Plan_strainOnward_60 hΦ hrec_17 _ _ _ _ h
theorem P_Plan_strainOnward_17 {d : Nat} {Post : Option Value → Mm → Prop} {M : Mm} {Φ : Int32 → Prop} (hΦ : ∀ r, Φ r → Post (some (.int r)) M) : ∀ (n : Nat) (x1 : Int32) (x2 : Int32) (x3 : Int32) (x4 : Int32), lp (D_Plan_strainOnward_17 M Φ) n (x1, x2, x3, x4) → WP (Ct (d + 1)) 98 Post (17, [some (.ref 34), none, some (.int x1), some (.int x2), some (.int x3), some (.int x4)], [], M)
  | 0, x1, x2, x3, x4, h => absurd h (by simp [lp])
  | n + 1, x1, x2, x3, x4, h => L_Plan_strainOnward_17 hΦ (P_Plan_strainOnward_17 hΦ n) x1 x2 x3 x4 h
set_option maxRecDepth 100000 in
set_option maxHeartbeats 4000000 in
theorem sp_Plan_strainOnward {d : Nat} {Post : Option Value → Mm → Prop} {M : Mm} {a1 : Int32} {a2 : Int32} {Φ : Int32 → Prop} (h : S_Plan_strainOnward M a1 a2 Φ) (hΦ : ∀ r, Φ r → Post (some (.int r)) M) : Ct (d + 2) 98 [.ref 34, .ref 7, .int a1, .int a2] M Post := by
  refine Ct.go (n := 6) (E := [some (.ref 34), some (.ref 7), some (.int a1), some (.int a2), none, none]) (by decide +kernel) (by simp [Value.category]) rfl ?_
  refine WP.blk [(.iload_n 2, 1, (0, 0), .null), (.aload_n 1, 1, (0, 0), .null), (.getfield 22, 3, (1, 3), .null)] (G := True) (c' := (5, [some (.ref 34), some (.ref 7), some (.int a1), some (.int a2), none, none], [.int (M 7 3), .int a1], M)) (by decide +kernel) rfl trivial ?_
  refine WP.br (.if_icmp .lt 5, 3, (10, 0), .null) (by decide +kernel) rfl (fun c1 => ?_) (fun c1 => ?_)
  · replace h := h.1 c1
    refine WP.blk [(.ldc 42, 2, (0, 0), .int (1000000000)), (.istore 4, 2, (0, 0), .null), (.iconst 0, 1, (0, 0), .int 0), (.istore 5, 2, (0, 0), .null)] (G := True) (c' := (17, [some (.ref 34), some (.ref 7), some (.int a1), some (.int a2), some (.int 1000000000), some (.int 0)], [], M)) (by decide +kernel) rfl trivial ?_
    refine WP.fgt [some (.ref 34), none, some (.int a1), some (.int a2), some (.int 1000000000), some (.int 0)] (by simp [fgt]) ?_
    obtain ⟨n, h⟩ := h
    exact P_Plan_strainOnward_17 hΦ n _ _ _ _ h
  · replace h := h.2 c1
    refine WP.blk [(.iconst 1, 1, (0, 0), .int 1)] (G := True) (c' := (9, [some (.ref 34), some (.ref 7), some (.int a1), some (.int a2), none, none], [.int 1], M)) (by decide +kernel) rfl trivial ?_
    exact WP.ret (.ireturn, 1, (0, 0), .null) (rk := 1) (by decide +kernel) (by decide +kernel) rfl trivial (hΦ _ h)
/-- java/lang/Math.max(II)I -/
def S_Math_max (M : Mm) (a1 : Int32) (a2 : Int32) (Φ : Int32 → Prop) : Prop := ((a1 < a2 → Φ a2) ∧ (¬ (a1 < a2) → Φ a1))
set_option maxRecDepth 100000 in
set_option maxHeartbeats 4000000 in
theorem sp_Math_max {d : Nat} {Post : Option Value → Mm → Prop} {M : Mm} {a1 : Int32} {a2 : Int32} {Φ : Int32 → Prop} (h : S_Math_max M a1 a2 Φ) (hΦ : ∀ r, Φ r → Post (some (.int r)) M) : Ct (d + 1) 99 [.int a1, .int a2] M Post := by
  refine Ct.go (n := 2) (E := [some (.int a1), some (.int a2)]) (by decide +kernel) (by simp [Value.category]) rfl ?_
  refine WP.blk [(.iload_n 0, 1, (0, 0), .null), (.iload_n 1, 1, (0, 0), .null)] (G := True) (c' := (2, [some (.int a1), some (.int a2)], [.int a2, .int a1], M)) (by decide +kernel) rfl trivial ?_
  refine WP.br (.if_icmp .lt 7, 3, (9, 0), .null) (by decide +kernel) rfl (fun c1 => ?_) (fun c1 => ?_)
  · replace h := h.1 c1
    refine WP.blk [(.iload_n 1, 1, (0, 0), .null)] (G := True) (c' := (10, [some (.int a1), some (.int a2)], [.int a2], M)) (by decide +kernel) rfl trivial ?_
    exact WP.ret (.ireturn, 1, (0, 0), .null) (rk := 1) (by decide +kernel) (by decide +kernel) rfl trivial (hΦ _ h)
  · replace h := h.2 c1
    refine WP.blk [(.iload_n 0, 1, (0, 0), .null), (.goto 4, 3, (10, 0), .null)] (G := True) (c' := (10, [some (.int a1), some (.int a2)], [.int a1], M)) (by decide +kernel) rfl trivial ?_
    exact WP.ret (.ireturn, 1, (0, 0), .null) (rk := 1) (by decide +kernel) (by decide +kernel) rfl trivial (hΦ _ h)
/-- GearRoad$Planner.strainFromRide(LGearRoad$Bike;II)I -/
def S_Plan_strainFromRide (M : Mm) (a1 : Int32) (a2 : Int32) (Φ : Int32 → Prop) : Prop := S_Bike_hasGear 7 M a2 (fun r1 => ((r1 = 0 → Φ 1000000000) ∧ (¬ (r1 = 0) → vp_in a1 6 ∧ S_Bike_loadOf 7 M a2 (M 12 (Int32.toNatClampNeg a1)) (fun r3 => S_Plan_strainOnward M (a1 + 1) a2 (fun r4 => S_Math_max M r3 r4 (fun r5 => Φ r5))))))
set_option maxRecDepth 100000 in
set_option maxHeartbeats 4000000 in
theorem sp_Plan_strainFromRide {d : Nat} {Post : Option Value → Mm → Prop} {M : Mm} {a1 : Int32} {a2 : Int32} {Φ : Int32 → Prop} (h : S_Plan_strainFromRide M a1 a2 Φ) (hΦ : ∀ r, Φ r → Post (some (.int r)) M) : Ct (d + 5) 97 [.ref 34, .ref 7, .int a1, .int a2] M Post := by
  refine Ct.go (n := 4) (E := [some (.ref 34), some (.ref 7), some (.int a1), some (.int a2)]) (by decide +kernel) (by simp [Value.category]) rfl ?_
  refine WP.blk [(.aload_n 1, 1, (0, 0), .null), (.iload_n 3, 1, (0, 0), .null)] (G := True) (c' := (2, [some (.ref 34), some (.ref 7), some (.int a1), some (.int a2)], [.int a2, .ref 7], M)) (by decide +kernel) rfl trivial ?_
  refine WP.call (.invokevirtual 75, 3, (48, 2), .retAddr 1) (by decide +kernel) rfl (sp_Bike_hasGear (d := d + 1) (by decide) h (fun r1 h => ?_))
  show WP (Ct (d + 4)) 97 Post (5, [some (.ref 34), some (.ref 7), some (.int a1), some (.int a2)], [.int r1], M)
  refine WP.br (.ifCond .ne 6, 3, (11, 0), .null) (by decide +kernel) rfl (fun c2 => ?_) (fun c2 => ?_)
  · replace h := h.2 c2
    refine WP.blk [(.aload_n 1, 1, (0, 0), .null), (.iload_n 3, 1, (0, 0), .null), (.aload_n 1, 1, (0, 0), .null), (.getfield 48, 3, (1, 13), .null), (.iload_n 2, 1, (0, 0), .null), (.iaload, 1, (0, 0), .null)] (G := vp_in a1 6 ∧ True) (c' := (19, [some (.ref 34), some (.ref 7), some (.int a1), some (.int a2)], [.int (M 12 (Int32.toNatClampNeg a1)), .int a2, .ref 7], M)) (by decide +kernel) rfl ⟨h.1, trivial⟩ ?_
    replace h := h.2
    refine WP.call (.invokevirtual 79, 3, (51, 3), .retAddr 1) (by decide +kernel) rfl (sp_Bike_loadOf (d := d + 0) (by decide) h (fun r3 h => ?_))
    show WP (Ct (d + 4)) 97 Post (22, [some (.ref 34), some (.ref 7), some (.int a1), some (.int a2)], [.int r3], M)
    refine WP.blk [(.aload_n 0, 1, (0, 0), .null), (.aload_n 1, 1, (0, 0), .null), (.iload_n 2, 1, (0, 0), .null), (.iconst 1, 1, (0, 0), .int 1), (.iadd, 1, (0, 0), .null), (.iload_n 3, 1, (0, 0), .null)] (G := True) (c' := (28, [some (.ref 34), some (.ref 7), some (.int a1), some (.int a2)], [.int a2, .int (a1 + 1), .ref 7, .ref 34, .int r3], M)) (by decide +kernel) rfl trivial ?_
    refine WP.call (.invokevirtual 72, 3, (98, 4), .retAddr 2) (by decide +kernel) rfl (sp_Plan_strainOnward (d := d + 2) h (fun r4 h => ?_))
    show WP (Ct (d + 4)) 97 Post (31, [some (.ref 34), some (.ref 7), some (.int a1), some (.int a2)], [.int r4, .int r3], M)
    refine WP.call (.invokestatic 82, 3, (99, 2), .null) (by decide +kernel) rfl (sp_Math_max (d := d + 3) h (fun r5 h => ?_))
    show WP (Ct (d + 4)) 97 Post (34, [some (.ref 34), some (.ref 7), some (.int a1), some (.int a2)], [.int r5], M)
    exact WP.ret (.ireturn, 1, (0, 0), .null) (rk := 1) (by decide +kernel) (by decide +kernel) rfl trivial (hΦ _ h)
  · replace h := h.1 (Classical.not_not.mp c2)
    refine WP.blk [(.ldc 42, 2, (0, 0), .int (1000000000))] (G := True) (c' := (10, [some (.ref 34), some (.ref 7), some (.int a1), some (.int a2)], [.int 1000000000], M)) (by decide +kernel) rfl trivial ?_
    exact WP.ret (.ireturn, 1, (0, 0), .null) (rk := 1) (by decide +kernel) (by decide +kernel) rfl trivial (hΦ _ h)
/-- GearRoad$Planner.leastStrain(LGearRoad$Bike;)I -/
def D_Plan_leastStrain_22 (Φ : Int32 → Mm → Prop) (rec_12 : Int32 × Mm → Prop) (rec_22 : Int32 × Int32 × Mm → Prop) : Int32 × Int32 × Mm → Prop
  | (x1, x2, M) => ((18 ≤ x2 → rec_12 ((x1 + (-1)), M)) ∧ (¬ (18 ≤ x2) → S_Plan_strainFromRide M x1 x2 (fun r4 => vp_in ((x1 * 18) + x2) 108 ∧ (∀ M5, M5 = mu M 36 (Int32.toNatClampNeg ((x1 * 18) + x2)) r4 → rec_22 (x1, (x2 + 1), M5)))))
def D_Plan_leastStrain_12 (Φ : Int32 → Mm → Prop) (rec_12 : Int32 × Mm → Prop) : Int32 × Mm → Prop
  | (x1, M) => ((x1 < (M 7 7) → S_Bike_gear 7 M (fun r3 => S_Plan_strainOnward M (M 7 7) r3 (fun r4 => Φ r4 M))) ∧ (¬ (x1 < (M 7 7)) → ∃ n, lp (D_Plan_leastStrain_22 Φ rec_12) n (x1, 0, M)))
def S_Plan_leastStrain (M : Mm) (Φ : Int32 → Mm → Prop) : Prop := S_Plan_learnCosts M (fun M1 => ∃ n, lp (D_Plan_leastStrain_12 Φ) n (((M1 7 3) - 1), M1))
set_option maxRecDepth 100000 in
set_option maxHeartbeats 4000000 in
theorem L_Plan_leastStrain_22 {d : Nat} {Post : Option Value → Mm → Prop} {rec_12 : Int32 × Mm → Prop} {rec_22 : Int32 × Int32 × Mm → Prop} {Φ : Int32 → Mm → Prop} (hΦ : ∀ r M1, Φ r M1 → Post (some (.int r)) M1) (hrec_12 : ∀ (x1 : Int32) (M : Mm), rec_12 (x1, M) → WP (Ct (d + 5)) 96 Post (12, [some (.ref 34), some (.ref 7), some (.int x1), none], [], M)) (hrec_22 : ∀ (x1 : Int32) (x2 : Int32) (M : Mm), rec_22 (x1, x2, M) → WP (Ct (d + 5)) 96 Post (22, [some (.ref 34), some (.ref 7), some (.int x1), some (.int x2)], [], M)) : ∀ (x1 : Int32) (x2 : Int32) (M : Mm), D_Plan_leastStrain_22 Φ rec_12 rec_22 (x1, x2, M) → WP (Ct (d + 5)) 96 Post (22, [some (.ref 34), some (.ref 7), some (.int x1), some (.int x2)], [], M) := by
  intro x1 x2 M h
  replace h : ((18 ≤ x2 → rec_12 ((x1 + (-1)), M)) ∧ (¬ (18 ≤ x2) → S_Plan_strainFromRide M x1 x2 (fun r4 => vp_in ((x1 * 18) + x2) 108 ∧ (∀ M5, M5 = mu M 36 (Int32.toNatClampNeg ((x1 * 18) + x2)) r4 → rec_22 (x1, (x2 + 1), M5))))) := h
  refine WP.blk [(.iload_n 3, 1, (0, 0), .null), (.bipush 18, 2, (0, 0), .int 18)] (G := True) (c' := (25, [some (.ref 34), some (.ref 7), some (.int x1), some (.int x2)], [.int 18, .int x2], M)) (by decide +kernel) rfl trivial ?_
  refine WP.br (.if_icmp .ge 27, 3, (52, 0), .null) (by decide +kernel) rfl (fun c3 => ?_) (fun c3 => ?_)
  · replace h := h.1 c3
    refine WP.blk [(.iinc 2 (-1), 3, (0, 0), .int (-1)), (.goto (-43), 3, (12, 0), .null)] (G := True) (c' := (12, [some (.ref 34), some (.ref 7), some (.int (x1 + (-1))), some (.int x2)], [], M)) (by decide +kernel) rfl trivial ?_
    refine WP.fgt [some (.ref 34), some (.ref 7), some (.int (x1 + (-1))), none] (by simp [fgt]) ?_
    exact hrec_12 _ _ h
  · replace h := h.2 c3
    refine WP.blk [(.aload_n 0, 1, (0, 0), .null), (.getfield 15, 3, (2, 1), .null), (.iload_n 2, 1, (0, 0), .null), (.bipush 18, 2, (0, 0), .int 18), (.imul, 1, (0, 0), .null), (.iload_n 3, 1, (0, 0), .null), (.iadd, 1, (0, 0), .null), (.aload_n 0, 1, (0, 0), .null), (.aload_n 1, 1, (0, 0), .null), (.iload_n 2, 1, (0, 0), .null), (.iload_n 3, 1, (0, 0), .null)] (G := True) (c' := (42, [some (.ref 34), some (.ref 7), some (.int x1), some (.int x2)], [.int x2, .int x1, .ref 7, .ref 34, .int ((x1 * 18) + x2), .ref 36], M)) (by decide +kernel) rfl trivial ?_
    refine WP.call (.invokevirtual 69, 3, (97, 4), .retAddr 2) (by decide +kernel) rfl (sp_Plan_strainFromRide (d := d + 0) h (fun r4 h => ?_))
    show WP (Ct (d + 5)) 96 Post (45, [some (.ref 34), some (.ref 7), some (.int x1), some (.int x2)], [.int r4, .int ((x1 * 18) + x2), .ref 36], M)
    refine WP.blk [(.iastore, 1, (0, 0), .null)] (G := vp_in ((x1 * 18) + x2) 108 ∧ True) (c' := (46, [some (.ref 34), some (.ref 7), some (.int x1), some (.int x2)], [], (mu M 36 (Int32.toNatClampNeg ((x1 * 18) + x2)) r4))) (by decide +kernel) rfl ⟨h.1, trivial⟩ ?_
    replace h := h.2
    replace h := h (mu M 36 (Int32.toNatClampNeg ((x1 * 18) + x2)) r4) rfl
    generalize (mu M 36 (Int32.toNatClampNeg ((x1 * 18) + x2)) r4) = M5 at h ⊢
    refine WP.blk [(.iinc 3 1, 3, (0, 0), .int 1), (.goto (-27), 3, (22, 0), .null)] (G := True) (c' := (22, [some (.ref 34), some (.ref 7), some (.int x1), some (.int (x2 + 1))], [], M5)) (by decide +kernel) rfl trivial ?_
    exact hrec_22 _ _ _ h
theorem P_Plan_leastStrain_22 {d : Nat} {Post : Option Value → Mm → Prop} {rec_12 : Int32 × Mm → Prop} {Φ : Int32 → Mm → Prop} (hΦ : ∀ r M1, Φ r M1 → Post (some (.int r)) M1) (hrec_12 : ∀ (x1 : Int32) (M : Mm), rec_12 (x1, M) → WP (Ct (d + 5)) 96 Post (12, [some (.ref 34), some (.ref 7), some (.int x1), none], [], M)) : ∀ (n : Nat) (x1 : Int32) (x2 : Int32) (M : Mm), lp (D_Plan_leastStrain_22 Φ rec_12) n (x1, x2, M) → WP (Ct (d + 5)) 96 Post (22, [some (.ref 34), some (.ref 7), some (.int x1), some (.int x2)], [], M)
  | 0, x1, x2, M, h => absurd h (by simp [lp])
  | n + 1, x1, x2, M, h => L_Plan_leastStrain_22 hΦ hrec_12 (P_Plan_leastStrain_22 hΦ hrec_12 n) x1 x2 M h
set_option maxRecDepth 100000 in
set_option maxHeartbeats 4000000 in
theorem L_Plan_leastStrain_12 {d : Nat} {Post : Option Value → Mm → Prop} {rec_12 : Int32 × Mm → Prop} {Φ : Int32 → Mm → Prop} (hΦ : ∀ r M1, Φ r M1 → Post (some (.int r)) M1) (hrec_12 : ∀ (x1 : Int32) (M : Mm), rec_12 (x1, M) → WP (Ct (d + 5)) 96 Post (12, [some (.ref 34), some (.ref 7), some (.int x1), none], [], M)) : ∀ (x1 : Int32) (M : Mm), D_Plan_leastStrain_12 Φ rec_12 (x1, M) → WP (Ct (d + 5)) 96 Post (12, [some (.ref 34), some (.ref 7), some (.int x1), none], [], M) := by
  intro x1 M h
  replace h : ((x1 < (M 7 7) → S_Bike_gear 7 M (fun r3 => S_Plan_strainOnward M (M 7 7) r3 (fun r4 => Φ r4 M))) ∧ (¬ (x1 < (M 7 7)) → ∃ n, lp (D_Plan_leastStrain_22 Φ rec_12) n (x1, 0, M))) := h
  refine WP.blk [(.iload_n 2, 1, (0, 0), .null), (.aload_n 1, 1, (0, 0), .null), (.getfield 28, 3, (1, 7), .null)] (G := True) (c' := (17, [some (.ref 34), some (.ref 7), some (.int x1), none], [.int (M 7 7), .int x1], M)) (by decide +kernel) rfl trivial ?_
  refine WP.br (.if_icmp .lt 41, 3, (58, 0), .null) (by decide +kernel) rfl (fun c2 => ?_) (fun c2 => ?_)
  · replace h := h.1 c2
    refine WP.blk [(.aload_n 0, 1, (0, 0), .null), (.aload_n 1, 1, (0, 0), .null), (.aload_n 1, 1, (0, 0), .null), (.getfield 28, 3, (1, 7), .null), (.aload_n 1, 1, (0, 0), .null)] (G := True) (c' := (65, [some (.ref 34), some (.ref 7), some (.int x1), none], [.ref 7, .int (M 7 7), .ref 7, .ref 34], M)) (by decide +kernel) rfl trivial ?_
    refine WP.call (.invokevirtual 35, 3, (46, 1), .retAddr 1) (by decide +kernel) rfl (sp_Bike_gear (d := d + 4) (by decide) h (fun r3 h => ?_))
    show WP (Ct (d + 5)) 96 Post (68, [some (.ref 34), some (.ref 7), some (.int x1), none], [.int r3, .int (M 7 7), .ref 7, .ref 34], M)
    refine WP.call (.invokevirtual 72, 3, (98, 4), .retAddr 2) (by decide +kernel) rfl (sp_Plan_strainOnward (d := d + 3) h (fun r4 h => ?_))
    show WP (Ct (d + 5)) 96 Post (71, [some (.ref 34), some (.ref 7), some (.int x1), none], [.int r4], M)
    exact WP.ret (.ireturn, 1, (0, 0), .null) (rk := 1) (by decide +kernel) (by decide +kernel) rfl trivial (hΦ _ _ h)
  · replace h := h.2 c2
    refine WP.blk [(.iconst 0, 1, (0, 0), .int 0), (.istore_n 3, 1, (0, 0), .null)] (G := True) (c' := (22, [some (.ref 34), some (.ref 7), some (.int x1), some (.int 0)], [], M)) (by decide +kernel) rfl trivial ?_
    obtain ⟨n, h⟩ := h
    exact P_Plan_leastStrain_22 hΦ hrec_12 n _ _ _ h
theorem P_Plan_leastStrain_12 {d : Nat} {Post : Option Value → Mm → Prop} {Φ : Int32 → Mm → Prop} (hΦ : ∀ r M1, Φ r M1 → Post (some (.int r)) M1) : ∀ (n : Nat) (x1 : Int32) (M : Mm), lp (D_Plan_leastStrain_12 Φ) n (x1, M) → WP (Ct (d + 5)) 96 Post (12, [some (.ref 34), some (.ref 7), some (.int x1), none], [], M)
  | 0, x1, M, h => absurd h (by simp [lp])
  | n + 1, x1, M, h => L_Plan_leastStrain_12 hΦ (P_Plan_leastStrain_12 hΦ n) x1 M h
set_option maxRecDepth 100000 in
set_option maxHeartbeats 4000000 in
theorem sp_Plan_leastStrain {d : Nat} {Post : Option Value → Mm → Prop} {M : Mm} {Φ : Int32 → Mm → Prop} (h : S_Plan_leastStrain M Φ) (hΦ : ∀ r M1, Φ r M1 → Post (some (.int r)) M1) : Ct (d + 6) 96 [.ref 34, .ref 7] M Post := by
  refine Ct.go (n := 4) (E := [some (.ref 34), some (.ref 7), none, none]) (by decide +kernel) (by simp [Value.category]) rfl ?_
  refine WP.blk [(.aload_n 0, 1, (0, 0), .null), (.aload_n 1, 1, (0, 0), .null)] (G := True) (c' := (2, [some (.ref 34), some (.ref 7), none, none], [.ref 7, .ref 34], M)) (by decide +kernel) rfl trivial ?_
  refine WP.call (.invokevirtual 18, 3, (87, 2), .retAddr 2) (by decide +kernel) rfl (sp_Plan_learnCosts (d := d + 2) h (fun M1 h => ?_))
  show WP (Ct (d + 5)) 96 Post (5, [some (.ref 34), some (.ref 7), none, none], [], M1)
  refine WP.blk [(.aload_n 1, 1, (0, 0), .null), (.getfield 22, 3, (1, 3), .null), (.iconst 1, 1, (0, 0), .int 1), (.isub, 1, (0, 0), .null), (.istore_n 2, 1, (0, 0), .null)] (G := True) (c' := (12, [some (.ref 34), some (.ref 7), some (.int ((M1 7 3) - 1)), none], [], M1)) (by decide +kernel) rfl trivial ?_
  obtain ⟨n, h⟩ := h
  exact P_Plan_leastStrain_12 hΦ n _ _ h
/-- GearRoad$Rows.reaches(III)Z -/
def S_Rows_reaches (M : Mm) (a1 : Int32) (a2 : Int32) (a3 : Int32) (Φ : Int32 → Prop) : Prop := ((a2 < 0 → Φ 0) ∧ (¬ (a2 < 0) → ((a3 < 0 → Φ 0) ∧ (¬ (a3 < 0) → vp_in a1 8 ∧ (((M 3 (Int32.toNatClampNeg a1)) < a2 → Φ 0) ∧ (¬ ((M 3 (Int32.toNatClampNeg a1)) < a2) → vp_in a1 8 ∧ ((((M 3 (Int32.toNatClampNeg a1)) - a2) < a3 → Φ 0) ∧ (¬ (((M 3 (Int32.toNatClampNeg a1)) - a2) < a3) → Φ 1))))))))
set_option maxRecDepth 100000 in
set_option maxHeartbeats 4000000 in
theorem sp_Rows_reaches {d : Nat} {Post : Option Value → Mm → Prop} {M : Mm} {a1 : Int32} {a2 : Int32} {a3 : Int32} {Φ : Int32 → Prop} (h : S_Rows_reaches M a1 a2 a3 Φ) (hΦ : ∀ r, Φ r → Post (some (.int r)) M) : Ct (d + 1) 17 [.ref 1, .int a1, .int a2, .int a3] M Post := by
  refine Ct.go (n := 4) (E := [some (.ref 1), some (.int a1), some (.int a2), some (.int a3)]) (by decide +kernel) (by simp [Value.category]) rfl ?_
  refine WP.blk [(.iload_n 2, 1, (0, 0), .null)] (G := True) (c' := (1, [some (.ref 1), some (.int a1), some (.int a2), some (.int a3)], [.int a2], M)) (by decide +kernel) rfl trivial ?_
  refine WP.br (.ifCond .lt 33, 3, (34, 0), .null) (by decide +kernel) rfl (fun c1 => ?_) (fun c1 => ?_)
  · replace h := h.1 c1
    refine WP.blk [(.iconst 0, 1, (0, 0), .int 0)] (G := True) (c' := (35, [some (.ref 1), some (.int a1), some (.int a2), some (.int a3)], [.int 0], M)) (by decide +kernel) rfl trivial ?_
    exact WP.ret (.ireturn, 1, (0, 0), .null) (rk := 2) (by decide +kernel) (by decide +kernel) rfl (by decide) (hΦ _ h)
  · replace h := h.2 c1
    refine WP.blk [(.iload_n 3, 1, (0, 0), .null)] (G := True) (c' := (5, [some (.ref 1), some (.int a1), some (.int a2), some (.int a3)], [.int a3], M)) (by decide +kernel) rfl trivial ?_
    refine WP.br (.ifCond .lt 29, 3, (34, 0), .null) (by decide +kernel) rfl (fun c2 => ?_) (fun c2 => ?_)
    · replace h := h.1 c2
      refine WP.blk [(.iconst 0, 1, (0, 0), .int 0)] (G := True) (c' := (35, [some (.ref 1), some (.int a1), some (.int a2), some (.int a3)], [.int 0], M)) (by decide +kernel) rfl trivial ?_
      exact WP.ret (.ireturn, 1, (0, 0), .null) (rk := 2) (by decide +kernel) (by decide +kernel) rfl (by decide) (hΦ _ h)
    · replace h := h.2 c2
      refine WP.blk [(.iload_n 2, 1, (0, 0), .null), (.aload_n 0, 1, (0, 0), .null), (.getfield 13, 3, (3, 1), .null), (.iload_n 1, 1, (0, 0), .null), (.iaload, 1, (0, 0), .null)] (G := vp_in a1 8 ∧ True) (c' := (15, [some (.ref 1), some (.int a1), some (.int a2), some (.int a3)], [.int (M 3 (Int32.toNatClampNeg a1)), .int a2], M)) (by decide +kernel) rfl ⟨h.1, trivial⟩ ?_
      replace h := h.2
      refine WP.br (.if_icmp .gt 19, 3, (34, 0), .null) (by decide +kernel) rfl (fun c3 => ?_) (fun c3 => ?_)
      · replace h := h.1 c3
        refine WP.blk [(.iconst 0, 1, (0, 0), .int 0)] (G := True) (c' := (35, [some (.ref 1), some (.int a1), some (.int a2), some (.int a3)], [.int 0], M)) (by decide +kernel) rfl trivial ?_
        exact WP.ret (.ireturn, 1, (0, 0), .null) (rk := 2) (by decide +kernel) (by decide +kernel) rfl (by decide) (hΦ _ h)
      · replace h := h.2 c3
        refine WP.blk [(.iload_n 3, 1, (0, 0), .null), (.aload_n 0, 1, (0, 0), .null), (.getfield 13, 3, (3, 1), .null), (.iload_n 1, 1, (0, 0), .null), (.iaload, 1, (0, 0), .null), (.iload_n 2, 1, (0, 0), .null), (.isub, 1, (0, 0), .null)] (G := vp_in a1 8 ∧ True) (c' := (27, [some (.ref 1), some (.int a1), some (.int a2), some (.int a3)], [.int ((M 3 (Int32.toNatClampNeg a1)) - a2), .int a3], M)) (by decide +kernel) rfl ⟨h.1, trivial⟩ ?_
        replace h := h.2
        refine WP.br (.if_icmp .gt 7, 3, (34, 0), .null) (by decide +kernel) rfl (fun c4 => ?_) (fun c4 => ?_)
        · replace h := h.1 c4
          refine WP.blk [(.iconst 0, 1, (0, 0), .int 0)] (G := True) (c' := (35, [some (.ref 1), some (.int a1), some (.int a2), some (.int a3)], [.int 0], M)) (by decide +kernel) rfl trivial ?_
          exact WP.ret (.ireturn, 1, (0, 0), .null) (rk := 2) (by decide +kernel) (by decide +kernel) rfl (by decide) (hΦ _ h)
        · replace h := h.2 c4
          refine WP.blk [(.iconst 1, 1, (0, 0), .int 1), (.goto 4, 3, (35, 0), .null)] (G := True) (c' := (35, [some (.ref 1), some (.int a1), some (.int a2), some (.int a3)], [.int 1], M)) (by decide +kernel) rfl trivial ?_
          exact WP.ret (.ireturn, 1, (0, 0), .null) (rk := 2) (by decide +kernel) (by decide +kernel) rfl (by decide) (hΦ _ h)
/-- GearRoad$Rows.placeOf(II)I -/
def S_Rows_placeOf (M : Mm) (a1 : Int32) (a2 : Int32) (Φ : Int32 → Prop) : Prop := Φ ((a1 * 40) + a2)
set_option maxRecDepth 100000 in
set_option maxHeartbeats 4000000 in
theorem sp_Rows_placeOf {d : Nat} {Post : Option Value → Mm → Prop} {M : Mm} {a1 : Int32} {a2 : Int32} {Φ : Int32 → Prop} (h : S_Rows_placeOf M a1 a2 Φ) (hΦ : ∀ r, Φ r → Post (some (.int r)) M) : Ct (d + 1) 13 [.int a1, .int a2] M Post := by
  refine Ct.go (n := 2) (E := [some (.int a1), some (.int a2)]) (by decide +kernel) (by simp [Value.category]) rfl ?_
  refine WP.blk [(.iload_n 0, 1, (0, 0), .null), (.bipush 40, 2, (0, 0), .int 40), (.imul, 1, (0, 0), .null), (.iload_n 1, 1, (0, 0), .null), (.iadd, 1, (0, 0), .null)] (G := True) (c' := (6, [some (.int a1), some (.int a2)], [.int ((a1 * 40) + a2)], M)) (by decide +kernel) rfl trivial ?_
  exact WP.ret (.ireturn, 1, (0, 0), .null) (rk := 1) (by decide +kernel) (by decide +kernel) rfl trivial (hΦ _ h)
/-- GearRoad$Rows.make(III)V -/
def D_Rows_make_17 (Φ : Mm → Prop) (rec_17 : Int32 × Int32 × Int32 × Mm → Prop) : Int32 × Int32 × Int32 × Mm → Prop
  | (x1, x2, x3, M) => ((x2 ≤ x3 → Φ M) ∧ (¬ (x2 ≤ x3) → S_Rows_placeOf M x1 x3 (fun r5 => vp_in r5 320 ∧ (∀ M6, M6 = mu M 4 (Int32.toNatClampNeg r5) 0 → rec_17 (x1, x2, (x3 + 1), M6)))))
def S_Rows_make (M : Mm) (a1 : Int32) (a2 : Int32) (a3 : Int32) (Φ : Mm → Prop) : Prop := vp_in a1 8 ∧ (∀ M1, M1 = mu M 2 (Int32.toNatClampNeg a1) a2 → vp_in a1 8 ∧ (∀ M2, M2 = mu M1 3 (Int32.toNatClampNeg a1) a3 → ∃ n, lp (D_Rows_make_17 Φ) n (a1, a3, 0, M2)))
set_option maxRecDepth 100000 in
set_option maxHeartbeats 4000000 in
theorem L_Rows_make_17 {d : Nat} {Post : Option Value → Mm → Prop} {rec_17 : Int32 × Int32 × Int32 × Mm → Prop} {Φ : Mm → Prop} (hΦ : ∀ M1, Φ M1 → Post none M1) (hrec_17 : ∀ (x1 : Int32) (x2 : Int32) (x3 : Int32) (M : Mm), rec_17 (x1, x2, x3, M) → WP (Ct (d + 1)) 12 Post (17, [some (.ref 1), some (.int x1), none, some (.int x2), some (.int x3)], [], M)) : ∀ (x1 : Int32) (x2 : Int32) (x3 : Int32) (M : Mm), D_Rows_make_17 Φ rec_17 (x1, x2, x3, M) → WP (Ct (d + 1)) 12 Post (17, [some (.ref 1), some (.int x1), none, some (.int x2), some (.int x3)], [], M) := by
  intro x1 x2 x3 M h
  replace h : ((x2 ≤ x3 → Φ M) ∧ (¬ (x2 ≤ x3) → S_Rows_placeOf M x1 x3 (fun r5 => vp_in r5 320 ∧ (∀ M6, M6 = mu M 4 (Int32.toNatClampNeg r5) 0 → rec_17 (x1, x2, (x3 + 1), M6))))) := h
  refine WP.blk [(.iload 4, 2, (0, 0), .null), (.iload_n 3, 1, (0, 0), .null)] (G := True) (c' := (20, [some (.ref 1), some (.int x1), none, some (.int x2), some (.int x3)], [.int x2, .int x3], M)) (by decide +kernel) rfl trivial ?_
  refine WP.br (.if_icmp .ge 21, 3, (41, 0), .null) (by decide +kernel) rfl (fun c4 => ?_) (fun c4 => ?_)
  · replace h := h.1 c4
    exact WP.ret (.return_, 1, (0, 0), .null) (rk := 0) (by decide +kernel) (by decide +kernel) rfl trivial (hΦ _ h)
  · replace h := h.2 c4
    refine WP.blk [(.aload_n 0, 1, (0, 0), .null), (.getfield 16, 3, (3, 2), .null), (.iload_n 1, 1, (0, 0), .null), (.iload 4, 2, (0, 0), .null)] (G := True) (c' := (30, [some (.ref 1), some (.int x1), none, some (.int x2), some (.int x3)], [.int x3, .int x1, .ref 4], M)) (by decide +kernel) rfl trivial ?_
    refine WP.call (.invokestatic 25, 3, (13, 2), .null) (by decide +kernel) rfl (sp_Rows_placeOf (d := d + 0) h (fun r5 h => ?_))
    show WP (Ct (d + 1)) 12 Post (33, [some (.ref 1), some (.int x1), none, some (.int x2), some (.int x3)], [.int r5, .ref 4], M)
    refine WP.blk [(.iconst 0, 1, (0, 0), .int 0), (.iastore, 1, (0, 0), .null)] (G := vp_in r5 320 ∧ True) (c' := (35, [some (.ref 1), some (.int x1), none, some (.int x2), some (.int x3)], [], (mu M 4 (Int32.toNatClampNeg r5) 0))) (by decide +kernel) rfl ⟨h.1, trivial⟩ ?_
    replace h := h.2
    replace h := h (mu M 4 (Int32.toNatClampNeg r5) 0) rfl
    generalize (mu M 4 (Int32.toNatClampNeg r5) 0) = M6 at h ⊢
    refine WP.blk [(.iinc 4 1, 3, (0, 0), .int 1), (.goto (-21), 3, (17, 0), .null)] (G := True) (c' := (17, [some (.ref 1), some (.int x1), none, some (.int x2), some (.int (x3 + 1))], [], M6)) (by decide +kernel) rfl trivial ?_
    exact hrec_17 _ _ _ _ h
theorem P_Rows_make_17 {d : Nat} {Post : Option Value → Mm → Prop} {Φ : Mm → Prop} (hΦ : ∀ M1, Φ M1 → Post none M1) : ∀ (n : Nat) (x1 : Int32) (x2 : Int32) (x3 : Int32) (M : Mm), lp (D_Rows_make_17 Φ) n (x1, x2, x3, M) → WP (Ct (d + 1)) 12 Post (17, [some (.ref 1), some (.int x1), none, some (.int x2), some (.int x3)], [], M)
  | 0, x1, x2, x3, M, h => absurd h (by simp [lp])
  | n + 1, x1, x2, x3, M, h => L_Rows_make_17 hΦ (P_Rows_make_17 hΦ n) x1 x2 x3 M h
set_option maxRecDepth 100000 in
set_option maxHeartbeats 4000000 in
theorem sp_Rows_make {d : Nat} {Post : Option Value → Mm → Prop} {M : Mm} {a1 : Int32} {a2 : Int32} {a3 : Int32} {Φ : Mm → Prop} (h : S_Rows_make M a1 a2 a3 Φ) (hΦ : ∀ M1, Φ M1 → Post none M1) : Ct (d + 2) 12 [.ref 1, .int a1, .int a2, .int a3] M Post := by
  refine Ct.go (n := 5) (E := [some (.ref 1), some (.int a1), some (.int a2), some (.int a3), none]) (by decide +kernel) (by simp [Value.category]) rfl ?_
  refine WP.blk [(.aload_n 0, 1, (0, 0), .null), (.getfield 9, 3, (3, 0), .null), (.iload_n 1, 1, (0, 0), .null), (.iload_n 2, 1, (0, 0), .null), (.iastore, 1, (0, 0), .null)] (G := vp_in a1 8 ∧ True) (c' := (7, [some (.ref 1), some (.int a1), some (.int a2), some (.int a3), none], [], (mu M 2 (Int32.toNatClampNeg a1) a2))) (by decide +kernel) rfl ⟨h.1, trivial⟩ ?_
  replace h := h.2
  replace h := h (mu M 2 (Int32.toNatClampNeg a1) a2) rfl
  generalize (mu M 2 (Int32.toNatClampNeg a1) a2) = M1 at h ⊢
  refine WP.blk [(.aload_n 0, 1, (0, 0), .null), (.getfield 13, 3, (3, 1), .null), (.iload_n 1, 1, (0, 0), .null), (.iload_n 3, 1, (0, 0), .null), (.iastore, 1, (0, 0), .null)] (G := vp_in a1 8 ∧ True) (c' := (14, [some (.ref 1), some (.int a1), some (.int a2), some (.int a3), none], [], (mu M1 3 (Int32.toNatClampNeg a1) a3))) (by decide +kernel) rfl ⟨h.1, trivial⟩ ?_
  replace h := h.2
  replace h := h (mu M1 3 (Int32.toNatClampNeg a1) a3) rfl
  generalize (mu M1 3 (Int32.toNatClampNeg a1) a3) = M2 at h ⊢
  refine WP.blk [(.iconst 0, 1, (0, 0), .int 0), (.istore 4, 2, (0, 0), .null)] (G := True) (c' := (17, [some (.ref 1), some (.int a1), some (.int a2), some (.int a3), some (.int 0)], [], M2)) (by decide +kernel) rfl trivial ?_
  refine WP.fgt [some (.ref 1), some (.int a1), none, some (.int a3), some (.int 0)] (by simp [fgt]) ?_
  obtain ⟨n, h⟩ := h
  exact P_Rows_make_17 hΦ n _ _ _ _ h
/-- GearRoad$Rows.put(III)I -/
def D_Rows_put_30 (Φ : Int32 → Mm → Prop) : Int32 × Int32 × Int32 × Mm → Prop
  | (x1, x2, x3, M) => S_Rows_placeOf M x1 x2 (fun r4 => vp_in r4 320 ∧ (∀ M5, M5 = mu M 4 (Int32.toNatClampNeg r4) x3 → Φ x3 M5))
def D_Rows_put_16 (Φ : Int32 → Mm → Prop) : Int32 × Int32 × Int32 × Int32 × Mm → Prop
  | (x1, x2, x3, x4, M) => vp_in x1 8 ∧ (((M 2 (Int32.toNatClampNeg x1)) = 1 → D_Rows_put_30 Φ (x1, x2, (Int16.toInt32 (Int32.toInt16 x3)), M)) ∧ (¬ ((M 2 (Int32.toNatClampNeg x1)) = 1) → D_Rows_put_30 Φ (x1, x2, x4, M)))
def S_Rows_put (M : Mm) (a1 : Int32) (a2 : Int32) (a3 : Int32) (Φ : Int32 → Mm → Prop) : Prop := vp_in a1 8 ∧ (((M 2 (Int32.toNatClampNeg a1)) = 0 → D_Rows_put_16 Φ (a1, a2, a3, (Int8.toInt32 (Int32.toInt8 a3)), M)) ∧ (¬ ((M 2 (Int32.toNatClampNeg a1)) = 0) → D_Rows_put_16 Φ (a1, a2, a3, a3, M)))
set_option maxRecDepth 100000 in
set_option maxHeartbeats 4000000 in
theorem L_Rows_put_30 {d : Nat} {Post : Option Value → Mm → Prop} {Φ : Int32 → Mm → Prop} (hΦ : ∀ r M1, Φ r M1 → Post (some (.int r)) M1) : ∀ (x1 : Int32) (x2 : Int32) (x3 : Int32) (M : Mm), D_Rows_put_30 Φ (x1, x2, x3, M) → WP (Ct (d + 1)) 18 Post (30, [some (.ref 1), some (.int x1), some (.int x2), none, some (.int x3)], [], M) := by
  intro x1 x2 x3 M h
  replace h : S_Rows_placeOf M x1 x2 (fun r4 => vp_in r4 320 ∧ (∀ M5, M5 = mu M 4 (Int32.toNatClampNeg r4) x3 → Φ x3 M5)) := h
  refine WP.blk [(.aload_n 0, 1, (0, 0), .null), (.getfield 16, 3, (3, 2), .null), (.iload_n 1, 1, (0, 0), .null), (.iload_n 2, 1, (0, 0), .null)] (G := True) (c' := (36, [some (.ref 1), some (.int x1), some (.int x2), none, some (.int x3)], [.int x2, .int x1, .ref 4], M)) (by decide +kernel) rfl trivial ?_
  refine WP.call (.invokestatic 25, 3, (13, 2), .null) (by decide +kernel) rfl (sp_Rows_placeOf (d := d + 0) h (fun r4 h => ?_))
  show WP (Ct (d + 1)) 18 Post (39, [some (.ref 1), some (.int x1), some (.int x2), none, some (.int x3)], [.int r4, .ref 4], M)
  refine WP.blk [(.iload 4, 2, (0, 0), .null), (.iastore, 1, (0, 0), .null)] (G := vp_in r4 320 ∧ True) (c' := (42, [some (.ref 1), some (.int x1), some (.int x2), none, some (.int x3)], [], (mu M 4 (Int32.toNatClampNeg r4) x3))) (by decide +kernel) rfl ⟨h.1, trivial⟩ ?_
  replace h := h.2
  replace h := h (mu M 4 (Int32.toNatClampNeg r4) x3) rfl
  generalize (mu M 4 (Int32.toNatClampNeg r4) x3) = M5 at h ⊢
  refine WP.blk [(.iload 4, 2, (0, 0), .null)] (G := True) (c' := (44, [some (.ref 1), some (.int x1), some (.int x2), none, some (.int x3)], [.int x3], M5)) (by decide +kernel) rfl trivial ?_
  exact WP.ret (.ireturn, 1, (0, 0), .null) (rk := 1) (by decide +kernel) (by decide +kernel) rfl trivial (hΦ _ _ h)
set_option maxRecDepth 100000 in
set_option maxHeartbeats 4000000 in
theorem L_Rows_put_16 {d : Nat} {Post : Option Value → Mm → Prop} {Φ : Int32 → Mm → Prop} (hΦ : ∀ r M1, Φ r M1 → Post (some (.int r)) M1) : ∀ (x1 : Int32) (x2 : Int32) (x3 : Int32) (x4 : Int32) (M : Mm), D_Rows_put_16 Φ (x1, x2, x3, x4, M) → WP (Ct (d + 1)) 18 Post (16, [some (.ref 1), some (.int x1), some (.int x2), some (.int x3), some (.int x4)], [], M) := by
  intro x1 x2 x3 x4 M h
  replace h : vp_in x1 8 ∧ (((M 2 (Int32.toNatClampNeg x1)) = 1 → D_Rows_put_30 Φ (x1, x2, (Int16.toInt32 (Int32.toInt16 x3)), M)) ∧ (¬ ((M 2 (Int32.toNatClampNeg x1)) = 1) → D_Rows_put_30 Φ (x1, x2, x4, M))) := h
  refine WP.blk [(.aload_n 0, 1, (0, 0), .null), (.getfield 9, 3, (3, 0), .null), (.iload_n 1, 1, (0, 0), .null), (.iaload, 1, (0, 0), .null), (.iconst 1, 1, (0, 0), .int 1)] (G := vp_in x1 8 ∧ True) (c' := (23, [some (.ref 1), some (.int x1), some (.int x2), some (.int x3), some (.int x4)], [.int 1, .int (M 2 (Int32.toNatClampNeg x1))], M)) (by decide +kernel) rfl ⟨h.1, trivial⟩ ?_
  replace h := h.2
  refine WP.br (.if_icmp .ne 7, 3, (30, 0), .null) (by decide +kernel) rfl (fun c5 => ?_) (fun c5 => ?_)
  · replace h := h.2 c5
    refine WP.fgt [some (.ref 1), some (.int x1), some (.int x2), none, some (.int x4)] (by simp [fgt]) ?_
    exact L_Rows_put_30 hΦ _ _ _ _ h
  · replace h := h.1 (Classical.not_not.mp c5)
    refine WP.blk [(.iload_n 3, 1, (0, 0), .null), (.i2s, 1, (0, 0), .null), (.istore 4, 2, (0, 0), .null)] (G := True) (c' := (30, [some (.ref 1), some (.int x1), some (.int x2), some (.int x3), some (.int (Int16.toInt32 (Int32.toInt16 x3)))], [], M)) (by decide +kernel) rfl trivial ?_
    refine WP.fgt [some (.ref 1), some (.int x1), some (.int x2), none, some (.int (Int16.toInt32 (Int32.toInt16 x3)))] (by simp [fgt]) ?_
    exact L_Rows_put_30 hΦ _ _ _ _ h
set_option maxRecDepth 100000 in
set_option maxHeartbeats 4000000 in
theorem sp_Rows_put {d : Nat} {Post : Option Value → Mm → Prop} {M : Mm} {a1 : Int32} {a2 : Int32} {a3 : Int32} {Φ : Int32 → Mm → Prop} (h : S_Rows_put M a1 a2 a3 Φ) (hΦ : ∀ r M1, Φ r M1 → Post (some (.int r)) M1) : Ct (d + 2) 18 [.ref 1, .int a1, .int a2, .int a3] M Post := by
  refine Ct.go (n := 5) (E := [some (.ref 1), some (.int a1), some (.int a2), some (.int a3), none]) (by decide +kernel) (by simp [Value.category]) rfl ?_
  refine WP.blk [(.iload_n 3, 1, (0, 0), .null), (.istore 4, 2, (0, 0), .null), (.aload_n 0, 1, (0, 0), .null), (.getfield 9, 3, (3, 0), .null), (.iload_n 1, 1, (0, 0), .null), (.iaload, 1, (0, 0), .null)] (G := vp_in a1 8 ∧ True) (c' := (9, [some (.ref 1), some (.int a1), some (.int a2), some (.int a3), some (.int a3)], [.int (M 2 (Int32.toNatClampNeg a1))], M)) (by decide +kernel) rfl ⟨h.1, trivial⟩ ?_
  replace h := h.2
  refine WP.br (.ifCond .ne 7, 3, (16, 0), .null) (by decide +kernel) rfl (fun c1 => ?_) (fun c1 => ?_)
  · replace h := h.2 c1
    exact L_Rows_put_16 hΦ _ _ _ _ _ h
  · replace h := h.1 (Classical.not_not.mp c1)
    refine WP.blk [(.iload_n 3, 1, (0, 0), .null), (.i2b, 1, (0, 0), .null), (.istore 4, 2, (0, 0), .null)] (G := True) (c' := (16, [some (.ref 1), some (.int a1), some (.int a2), some (.int a3), some (.int (Int8.toInt32 (Int32.toInt8 a3)))], [], M)) (by decide +kernel) rfl trivial ?_
    exact L_Rows_put_16 hΦ _ _ _ _ _ h
/-- GearRoad$Rows.move(IIIII)V -/
def S_Rows_move (M : Mm) (a1 : Int32) (a2 : Int32) (a3 : Int32) (a4 : Int32) (a5 : Int32) (Φ : Mm → Prop) : Prop := S_Rows_placeOf M a1 a2 (fun r1 => S_Rows_placeOf M a3 a4 (fun r2 => cpOk r1 r2 a5 320 320 ∧ (∀ M3, M3 = mcp M 4 4 (Int32.toNatClampNeg r1) (Int32.toNatClampNeg r2) (Int32.toNatClampNeg a5) → Φ M3)))
set_option maxRecDepth 100000 in
set_option maxHeartbeats 4000000 in
theorem sp_Rows_move {d : Nat} {Post : Option Value → Mm → Prop} {M : Mm} {a1 : Int32} {a2 : Int32} {a3 : Int32} {a4 : Int32} {a5 : Int32} {Φ : Mm → Prop} (h : S_Rows_move M a1 a2 a3 a4 a5 Φ) (hΦ : ∀ M1, Φ M1 → Post none M1) : Ct (d + 2) 20 [.ref 1, .int a1, .int a2, .int a3, .int a4, .int a5] M Post := by
  refine Ct.go (n := 6) (E := [some (.ref 1), some (.int a1), some (.int a2), some (.int a3), some (.int a4), some (.int a5)]) (by decide +kernel) (by simp [Value.category]) rfl ?_
  refine WP.blk [(.aload_n 0, 1, (0, 0), .null), (.getfield 16, 3, (3, 2), .null), (.iload_n 1, 1, (0, 0), .null), (.iload_n 2, 1, (0, 0), .null)] (G := True) (c' := (6, [some (.ref 1), some (.int a1), some (.int a2), some (.int a3), some (.int a4), some (.int a5)], [.int a2, .int a1, .ref 4], M)) (by decide +kernel) rfl trivial ?_
  refine WP.call (.invokestatic 25, 3, (13, 2), .null) (by decide +kernel) rfl (sp_Rows_placeOf (d := d + 0) h (fun r1 h => ?_))
  show WP (Ct (d + 1)) 20 Post (9, [some (.ref 1), some (.int a1), some (.int a2), some (.int a3), some (.int a4), some (.int a5)], [.int r1, .ref 4], M)
  refine WP.blk [(.aload_n 0, 1, (0, 0), .null), (.getfield 16, 3, (3, 2), .null), (.iload_n 3, 1, (0, 0), .null), (.iload 4, 2, (0, 0), .null)] (G := True) (c' := (16, [some (.ref 1), some (.int a1), some (.int a2), some (.int a3), some (.int a4), some (.int a5)], [.int a4, .int a3, .ref 4, .int r1, .ref 4], M)) (by decide +kernel) rfl trivial ?_
  refine WP.call (.invokestatic 25, 3, (13, 2), .null) (by decide +kernel) rfl (sp_Rows_placeOf (d := d + 0) h (fun r2 h => ?_))
  show WP (Ct (d + 1)) 20 Post (19, [some (.ref 1), some (.int a1), some (.int a2), some (.int a3), some (.int a4), some (.int a5)], [.int r2, .ref 4, .int r1, .ref 4], M)
  refine WP.blk [(.iload 5, 2, (0, 0), .null), (.invokestatic 29, 3, (999, 5), .null)] (G := cpOk r1 r2 a5 320 320 ∧ True) (c' := (24, [some (.ref 1), some (.int a1), some (.int a2), some (.int a3), some (.int a4), some (.int a5)], [], (mcp M 4 4 (Int32.toNatClampNeg r1) (Int32.toNatClampNeg r2) (Int32.toNatClampNeg a5)))) (by decide +kernel) rfl ⟨h.1, trivial⟩ ?_
  replace h := h.2
  replace h := h (mcp M 4 4 (Int32.toNatClampNeg r1) (Int32.toNatClampNeg r2) (Int32.toNatClampNeg a5)) rfl
  generalize (mcp M 4 4 (Int32.toNatClampNeg r1) (Int32.toNatClampNeg r2) (Int32.toNatClampNeg a5)) = M3 at h ⊢
  exact WP.ret (.return_, 1, (0, 0), .null) (rk := 0) (by decide +kernel) (by decide +kernel) rfl trivial (hΦ _ h)
/-- GearRoad$Rows.remove(I)I -/
def S_Rows_remove (M : Mm) (a1 : Int32) (Φ : Int32 → Mm → Prop) : Prop := vp_in a1 8 ∧ (∀ M1, M1 = mu M 2 (Int32.toNatClampNeg a1) (-1) → vp_in a1 8 ∧ Φ (M1 3 (Int32.toNatClampNeg a1)) M1)
set_option maxRecDepth 100000 in
set_option maxHeartbeats 4000000 in
theorem sp_Rows_remove {d : Nat} {Post : Option Value → Mm → Prop} {M : Mm} {a1 : Int32} {Φ : Int32 → Mm → Prop} (h : S_Rows_remove M a1 Φ) (hΦ : ∀ r M1, Φ r M1 → Post (some (.int r)) M1) : Ct (d + 1) 22 [.ref 1, .int a1] M Post := by
  refine Ct.go (n := 2) (E := [some (.ref 1), some (.int a1)]) (by decide +kernel) (by simp [Value.category]) rfl ?_
  refine WP.blk [(.aload_n 0, 1, (0, 0), .null), (.getfield 9, 3, (3, 0), .null), (.iload_n 1, 1, (0, 0), .null), (.iconst (-1), 1, (0, 0), .int (-1)), (.iastore, 1, (0, 0), .null)] (G := vp_in a1 8 ∧ True) (c' := (7, [some (.ref 1), some (.int a1)], [], (mu M 2 (Int32.toNatClampNeg a1) (-1)))) (by decide +kernel) rfl ⟨h.1, trivial⟩ ?_
  replace h := h.2
  replace h := h (mu M 2 (Int32.toNatClampNeg a1) (-1)) rfl
  generalize (mu M 2 (Int32.toNatClampNeg a1) (-1)) = M1 at h ⊢
  refine WP.blk [(.aload_n 0, 1, (0, 0), .null), (.getfield 13, 3, (3, 1), .null), (.iload_n 1, 1, (0, 0), .null), (.iaload, 1, (0, 0), .null)] (G := vp_in a1 8 ∧ True) (c' := (13, [some (.ref 1), some (.int a1)], [.int (M1 3 (Int32.toNatClampNeg a1))], M1)) (by decide +kernel) rfl ⟨h.1, trivial⟩ ?_
  replace h := h.2
  exact WP.ret (.ireturn, 1, (0, 0), .null) (rk := 1) (by decide +kernel) (by decide +kernel) rfl trivial (hΦ _ _ h)
/-- GearRoad$Rows.isMissing(I)Z -/
def S_Rows_isMissing (M : Mm) (a1 : Int32) (Φ : Int32 → Prop) : Prop := vp_in a1 8 ∧ (((M 2 (Int32.toNatClampNeg a1)) = (-1) → Φ 1) ∧ (¬ ((M 2 (Int32.toNatClampNeg a1)) = (-1)) → Φ 0))
set_option maxRecDepth 100000 in
set_option maxHeartbeats 4000000 in
theorem sp_Rows_isMissing {d : Nat} {Post : Option Value → Mm → Prop} {M : Mm} {a1 : Int32} {Φ : Int32 → Prop} (h : S_Rows_isMissing M a1 Φ) (hΦ : ∀ r, Φ r → Post (some (.int r)) M) : Ct (d + 1) 16 [.ref 1, .int a1] M Post := by
  refine Ct.go (n := 2) (E := [some (.ref 1), some (.int a1)]) (by decide +kernel) (by simp [Value.category]) rfl ?_
  refine WP.blk [(.aload_n 0, 1, (0, 0), .null), (.getfield 9, 3, (3, 0), .null), (.iload_n 1, 1, (0, 0), .null), (.iaload, 1, (0, 0), .null), (.iconst (-1), 1, (0, 0), .int (-1))] (G := vp_in a1 8 ∧ True) (c' := (7, [some (.ref 1), some (.int a1)], [.int (-1), .int (M 2 (Int32.toNatClampNeg a1))], M)) (by decide +kernel) rfl ⟨h.1, trivial⟩ ?_
  replace h := h.2
  refine WP.br (.if_icmp .ne 7, 3, (14, 0), .null) (by decide +kernel) rfl (fun c1 => ?_) (fun c1 => ?_)
  · replace h := h.2 c1
    refine WP.blk [(.iconst 0, 1, (0, 0), .int 0)] (G := True) (c' := (15, [some (.ref 1), some (.int a1)], [.int 0], M)) (by decide +kernel) rfl trivial ?_
    exact WP.ret (.ireturn, 1, (0, 0), .null) (rk := 2) (by decide +kernel) (by decide +kernel) rfl (by decide) (hΦ _ h)
  · replace h := h.1 (Classical.not_not.mp c1)
    refine WP.blk [(.iconst 1, 1, (0, 0), .int 1), (.goto 4, 3, (15, 0), .null)] (G := True) (c' := (15, [some (.ref 1), some (.int a1)], [.int 1], M)) (by decide +kernel) rfl trivial ?_
    exact WP.ret (.ireturn, 1, (0, 0), .null) (rk := 2) (by decide +kernel) (by decide +kernel) rfl (by decide) (hΦ _ h)
/-- GearRoad$Rows.howMany()I -/
def D_Rows_howMany_21 (M : Mm) (Φ : Int32 → Prop) (rec_4 : Int32 × Int32 → Prop) : Int32 × Int32 → Prop
  | (x1, x2) => rec_4 (x1, (x2 + 1))
def D_Rows_howMany_4 (M : Mm) (Φ : Int32 → Prop) (rec_4 : Int32 × Int32 → Prop) : Int32 × Int32 → Prop
  | (x1, x2) => ((8 ≤ x2 → Φ x1) ∧ (¬ (8 ≤ x2) → S_Rows_isMissing M x2 (fun r4 => ((r4 = 0 → D_Rows_howMany_21 M Φ rec_4 ((x1 + 1), x2)) ∧ (¬ (r4 = 0) → D_Rows_howMany_21 M Φ rec_4 (x1, x2))))))
def S_Rows_howMany (M : Mm) (Φ : Int32 → Prop) : Prop := ∃ n, lp (D_Rows_howMany_4 M Φ) n (0, 0)
set_option maxRecDepth 100000 in
set_option maxHeartbeats 4000000 in
theorem L_Rows_howMany_21 {d : Nat} {Post : Option Value → Mm → Prop} {M : Mm} {rec_4 : Int32 × Int32 → Prop} {Φ : Int32 → Prop} (hΦ : ∀ r, Φ r → Post (some (.int r)) M) (hrec_4 : ∀ (x1 : Int32) (x2 : Int32), rec_4 (x1, x2) → WP (Ct (d + 1)) 130 Post (4, [some (.ref 1), some (.int x1), some (.int x2)], [], M)) : ∀ (x1 : Int32) (x2 : Int32), D_Rows_howMany_21 M Φ rec_4 (x1, x2) → WP (Ct (d + 1)) 130 Post (21, [some (.ref 1), some (.int x1), some (.int x2)], [], M) := by
  intro x1 x2 h
  replace h : rec_4 (x1, (x2 + 1)) := h
  refine WP.blk [(.iinc 2 1, 3, (0, 0), .int 1), (.goto (-20), 3, (4, 0), .null)] (G := True) (c' := (4, [some (.ref 1), some (.int x1), some (.int (x2 + 1))], [], M)) (by decide +kernel) rfl trivial ?_
  exact hrec_4 _ _ h
set_option maxRecDepth 100000 in
set_option maxHeartbeats 4000000 in
theorem L_Rows_howMany_4 {d : Nat} {Post : Option Value → Mm → Prop} {M : Mm} {rec_4 : Int32 × Int32 → Prop} {Φ : Int32 → Prop} (hΦ : ∀ r, Φ r → Post (some (.int r)) M) (hrec_4 : ∀ (x1 : Int32) (x2 : Int32), rec_4 (x1, x2) → WP (Ct (d + 1)) 130 Post (4, [some (.ref 1), some (.int x1), some (.int x2)], [], M)) : ∀ (x1 : Int32) (x2 : Int32), D_Rows_howMany_4 M Φ rec_4 (x1, x2) → WP (Ct (d + 1)) 130 Post (4, [some (.ref 1), some (.int x1), some (.int x2)], [], M) := by
  intro x1 x2 h
  replace h : ((8 ≤ x2 → Φ x1) ∧ (¬ (8 ≤ x2) → S_Rows_isMissing M x2 (fun r4 => ((r4 = 0 → D_Rows_howMany_21 M Φ rec_4 ((x1 + 1), x2)) ∧ (¬ (r4 = 0) → D_Rows_howMany_21 M Φ rec_4 (x1, x2)))))) := h
  refine WP.blk [(.iload_n 2, 1, (0, 0), .null), (.bipush 8, 2, (0, 0), .int 8)] (G := True) (c' := (7, [some (.ref 1), some (.int x1), some (.int x2)], [.int 8, .int x2], M)) (by decide +kernel) rfl trivial ?_
  refine WP.br (.if_icmp .ge 20, 3, (27, 0), .null) (by decide +kernel) rfl (fun c3 => ?_) (fun c3 => ?_)
  · replace h := h.1 c3
    refine WP.blk [(.iload_n 1, 1, (0, 0), .null)] (G := True) (c' := (28, [some (.ref 1), some (.int x1), some (.int x2)], [.int x1], M)) (by decide +kernel) rfl trivial ?_
    exact WP.ret (.ireturn, 1, (0, 0), .null) (rk := 1) (by decide +kernel) (by decide +kernel) rfl trivial (hΦ _ h)
  · replace h := h.2 c3
    refine WP.blk [(.aload_n 0, 1, (0, 0), .null), (.iload_n 2, 1, (0, 0), .null)] (G := True) (c' := (12, [some (.ref 1), some (.int x1), some (.int x2)], [.int x2, .ref 1], M)) (by decide +kernel) rfl trivial ?_
    refine WP.call (.invokevirtual 35, 3, (16, 2), .retAddr 3) (by decide +kernel) rfl (sp_Rows_isMissing (d := d + 0) h (fun r4 h => ?_))
    show WP (Ct (d + 1)) 130 Post (15, [some (.ref 1), some (.int x1), some (.int x2)], [.int r4], M)
    refine WP.br (.ifCond .ne 6, 3, (21, 0), .null) (by decide +kernel) rfl (fun c5 => ?_) (fun c5 => ?_)
    · replace h := h.2 c5
      exact L_Rows_howMany_21 hΦ hrec_4 _ _ h
    · replace h := h.1 (Classical.not_not.mp c5)
      refine WP.blk [(.iinc 1 1, 3, (0, 0), .int 1)] (G := True) (c' := (21, [some (.ref 1), some (.int (x1 + 1)), some (.int x2)], [], M)) (by decide +kernel) rfl trivial ?_
      exact L_Rows_howMany_21 hΦ hrec_4 _ _ h
theorem P_Rows_howMany_4 {d : Nat} {Post : Option Value → Mm → Prop} {M : Mm} {Φ : Int32 → Prop} (hΦ : ∀ r, Φ r → Post (some (.int r)) M) : ∀ (n : Nat) (x1 : Int32) (x2 : Int32), lp (D_Rows_howMany_4 M Φ) n (x1, x2) → WP (Ct (d + 1)) 130 Post (4, [some (.ref 1), some (.int x1), some (.int x2)], [], M)
  | 0, x1, x2, h => absurd h (by simp [lp])
  | n + 1, x1, x2, h => L_Rows_howMany_4 hΦ (P_Rows_howMany_4 hΦ n) x1 x2 h
set_option maxRecDepth 100000 in
set_option maxHeartbeats 4000000 in
theorem sp_Rows_howMany {d : Nat} {Post : Option Value → Mm → Prop} {M : Mm} {Φ : Int32 → Prop} (h : S_Rows_howMany M Φ) (hΦ : ∀ r, Φ r → Post (some (.int r)) M) : Ct (d + 2) 130 [.ref 1] M Post := by
  refine Ct.go (n := 3) (E := [some (.ref 1), none, none]) (by decide +kernel) (by simp [Value.category]) rfl ?_
  refine WP.blk [(.iconst 0, 1, (0, 0), .int 0), (.istore_n 1, 1, (0, 0), .null), (.iconst 0, 1, (0, 0), .int 0), (.istore_n 2, 1, (0, 0), .null)] (G := True) (c' := (4, [some (.ref 1), some (.int 0), some (.int 0)], [], M)) (by decide +kernel) rfl trivial ?_
  obtain ⟨n, h⟩ := h
  exact P_Rows_howMany_4 hΦ n _ _ h
/-- GearRoad$Tape.add(I)V -/
def S_Tape_add (M : Mm) (a1 : Int32) (Φ : Mm → Prop) : Prop := (((M 5 1) < 80 → vp_in (M 5 1) 80 ∧ (∀ M2, M2 = mu M 6 (Int32.toNatClampNeg (M 5 1)) a1 → (∀ M3, M3 = mu M2 5 1 ((M2 5 1) + 1) → Φ M3))) ∧ (¬ ((M 5 1) < 80) → Φ M))
set_option maxRecDepth 100000 in
set_option maxHeartbeats 4000000 in
theorem sp_Tape_add {d : Nat} {Post : Option Value → Mm → Prop} {M : Mm} {a1 : Int32} {Φ : Mm → Prop} (h : S_Tape_add M a1 Φ) (hΦ : ∀ M1, Φ M1 → Post none M1) : Ct (d + 1) 24 [.ref 5, .int a1] M Post := by
  refine Ct.go (n := 2) (E := [some (.ref 5), some (.int a1)]) (by decide +kernel) (by simp [Value.category]) rfl ?_
  refine WP.blk [(.aload_n 0, 1, (0, 0), .null), (.getfield 15, 3, (4, 1), .null), (.bipush 80, 2, (0, 0), .int 80)] (G := True) (c' := (6, [some (.ref 5), some (.int a1)], [.int 80, .int (M 5 1)], M)) (by decide +kernel) rfl trivial ?_
  refine WP.br (.if_icmp .lt 4, 3, (10, 0), .null) (by decide +kernel) rfl (fun c1 => ?_) (fun c1 => ?_)
  · replace h := h.1 c1
    refine WP.blk [(.aload_n 0, 1, (0, 0), .null), (.getfield 11, 3, (4, 0), .null), (.aload_n 0, 1, (0, 0), .null), (.getfield 15, 3, (4, 1), .null), (.iload_n 1, 1, (0, 0), .null), (.iastore, 1, (0, 0), .null)] (G := vp_in (M 5 1) 80 ∧ True) (c' := (20, [some (.ref 5), some (.int a1)], [], (mu M 6 (Int32.toNatClampNeg (M 5 1)) a1))) (by decide +kernel) rfl ⟨h.1, trivial⟩ ?_
    replace h := h.2
    replace h := h (mu M 6 (Int32.toNatClampNeg (M 5 1)) a1) rfl
    generalize (mu M 6 (Int32.toNatClampNeg (M 5 1)) a1) = M2 at h ⊢
    refine WP.blk [(.aload_n 0, 1, (0, 0), .null), (.dup, 1, (0, 0), .null), (.getfield 15, 3, (4, 1), .null), (.iconst 1, 1, (0, 0), .int 1), (.iadd, 1, (0, 0), .null), (.putfield 15, 3, (4, 1), .null)] (G := True) (c' := (30, [some (.ref 5), some (.int a1)], [], (mu M2 5 1 ((M2 5 1) + 1)))) (by decide +kernel) rfl trivial ?_
    replace h := h (mu M2 5 1 ((M2 5 1) + 1)) rfl
    generalize (mu M2 5 1 ((M2 5 1) + 1)) = M3 at h ⊢
    exact WP.ret (.return_, 1, (0, 0), .null) (rk := 0) (by decide +kernel) (by decide +kernel) rfl trivial (hΦ _ h)
  · replace h := h.2 c1
    exact WP.ret (.return_, 1, (0, 0), .null) (rk := 0) (by decide +kernel) (by decide +kernel) rfl trivial (hΦ _ h)
/-- GearRoad$Tape.letterAt(I)I -/
def S_Tape_letterAt (M : Mm) (a1 : Int32) (Φ : Int32 → Prop) : Prop := ((a1 < 0 → Φ (-1)) ∧ (¬ (a1 < 0) → (((M 5 1) ≤ a1 → Φ (-1)) ∧ (¬ ((M 5 1) ≤ a1) → vp_in a1 80 ∧ Φ (M 6 (Int32.toNatClampNeg a1))))))
set_option maxRecDepth 100000 in
set_option maxHeartbeats 4000000 in
theorem sp_Tape_letterAt {d : Nat} {Post : Option Value → Mm → Prop} {M : Mm} {a1 : Int32} {Φ : Int32 → Prop} (h : S_Tape_letterAt M a1 Φ) (hΦ : ∀ r, Φ r → Post (some (.int r)) M) : Ct (d + 1) 30 [.ref 5, .int a1] M Post := by
  refine Ct.go (n := 2) (E := [some (.ref 5), some (.int a1)]) (by decide +kernel) (by simp [Value.category]) rfl ?_
  refine WP.blk [(.iload_n 1, 1, (0, 0), .null)] (G := True) (c' := (1, [some (.ref 5), some (.int a1)], [.int a1], M)) (by decide +kernel) rfl trivial ?_
  refine WP.br (.ifCond .lt 20, 3, (21, 0), .null) (by decide +kernel) rfl (fun c1 => ?_) (fun c1 => ?_)
  · replace h := h.1 c1
    refine WP.blk [(.iconst (-1), 1, (0, 0), .int (-1))] (G := True) (c' := (22, [some (.ref 5), some (.int a1)], [.int (-1)], M)) (by decide +kernel) rfl trivial ?_
    exact WP.ret (.ireturn, 1, (0, 0), .null) (rk := 1) (by decide +kernel) (by decide +kernel) rfl trivial (hΦ _ h)
  · replace h := h.2 c1
    refine WP.blk [(.iload_n 1, 1, (0, 0), .null), (.aload_n 0, 1, (0, 0), .null), (.getfield 15, 3, (4, 1), .null)] (G := True) (c' := (9, [some (.ref 5), some (.int a1)], [.int (M 5 1), .int a1], M)) (by decide +kernel) rfl trivial ?_
    refine WP.br (.if_icmp .ge 12, 3, (21, 0), .null) (by decide +kernel) rfl (fun c2 => ?_) (fun c2 => ?_)
    · replace h := h.1 c2
      refine WP.blk [(.iconst (-1), 1, (0, 0), .int (-1))] (G := True) (c' := (22, [some (.ref 5), some (.int a1)], [.int (-1)], M)) (by decide +kernel) rfl trivial ?_
      exact WP.ret (.ireturn, 1, (0, 0), .null) (rk := 1) (by decide +kernel) (by decide +kernel) rfl trivial (hΦ _ h)
    · replace h := h.2 c2
      refine WP.blk [(.aload_n 0, 1, (0, 0), .null), (.getfield 11, 3, (4, 0), .null), (.iload_n 1, 1, (0, 0), .null), (.iaload, 1, (0, 0), .null), (.goto 4, 3, (22, 0), .null)] (G := vp_in a1 80 ∧ True) (c' := (22, [some (.ref 5), some (.int a1)], [.int (M 6 (Int32.toNatClampNeg a1))], M)) (by decide +kernel) rfl ⟨h.1, trivial⟩ ?_
      replace h := h.2
      exact WP.ret (.ireturn, 1, (0, 0), .null) (rk := 1) (by decide +kernel) (by decide +kernel) rfl trivial (hΦ _ h)
/-- GearRoad$Tape.next()I -/
def S_Tape_next (M : Mm) (Φ : Int32 → Prop) : Prop := S_Tape_letterAt M (M 5 2) (fun r1 => Φ r1)
set_option maxRecDepth 100000 in
set_option maxHeartbeats 4000000 in
theorem sp_Tape_next {d : Nat} {Post : Option Value → Mm → Prop} {M : Mm} {Φ : Int32 → Prop} (h : S_Tape_next M Φ) (hΦ : ∀ r, Φ r → Post (some (.int r)) M) : Ct (d + 2) 29 [.ref 5] M Post := by
  refine Ct.go (n := 1) (E := [some (.ref 5)]) (by decide +kernel) (by simp [Value.category]) rfl ?_
  refine WP.blk [(.aload_n 0, 1, (0, 0), .null), (.aload_n 0, 1, (0, 0), .null), (.getfield 19, 3, (4, 2), .null)] (G := True) (c' := (5, [some (.ref 5)], [.int (M 5 2), .ref 5], M)) (by decide +kernel) rfl trivial ?_
  refine WP.call (.invokevirtual 104, 3, (30, 2), .retAddr 4) (by decide +kernel) rfl (sp_Tape_letterAt (d := d + 0) h (fun r1 h => ?_))
  show WP (Ct (d + 1)) 29 Post (8, [some (.ref 5)], [.int r1], M)
  exact WP.ret (.ireturn, 1, (0, 0), .null) (rk := 1) (by decide +kernel) (by decide +kernel) rfl trivial (hΦ _ h)
/-- GearRoad$Tape.fail(I)V -/
def S_Tape_fail (M : Mm) (a1 : Int32) (Φ : Mm → Prop) : Prop := (((M 5 3) = 0 → (∀ M2, M2 = mu M 5 3 a1 → (∀ M3, M3 = mu M2 5 4 (M2 5 2) → Φ M3))) ∧ (¬ ((M 5 3) = 0) → Φ M))
set_option maxRecDepth 100000 in
set_option maxHeartbeats 4000000 in
theorem sp_Tape_fail {d : Nat} {Post : Option Value → Mm → Prop} {M : Mm} {a1 : Int32} {Φ : Mm → Prop} (h : S_Tape_fail M a1 Φ) (hΦ : ∀ M1, Φ M1 → Post none M1) : Ct (d + 1) 31 [.ref 5, .int a1] M Post := by
  refine Ct.go (n := 2) (E := [some (.ref 5), some (.int a1)]) (by decide +kernel) (by simp [Value.category]) rfl ?_
  refine WP.blk [(.aload_n 0, 1, (0, 0), .null), (.getfield 22, 3, (4, 3), .null)] (G := True) (c' := (4, [some (.ref 5), some (.int a1)], [.int (M 5 3)], M)) (by decide +kernel) rfl trivial ?_
  refine WP.br (.ifCond .eq 4, 3, (8, 0), .null) (by decide +kernel) rfl (fun c1 => ?_) (fun c1 => ?_)
  · replace h := h.1 c1
    refine WP.blk [(.aload_n 0, 1, (0, 0), .null), (.iload_n 1, 1, (0, 0), .null), (.putfield 22, 3, (4, 3), .null)] (G := True) (c' := (13, [some (.ref 5), some (.int a1)], [], (mu M 5 3 a1))) (by decide +kernel) rfl trivial ?_
    replace h := h (mu M 5 3 a1) rfl
    generalize (mu M 5 3 a1) = M2 at h ⊢
    refine WP.blk [(.aload_n 0, 1, (0, 0), .null), (.aload_n 0, 1, (0, 0), .null), (.getfield 19, 3, (4, 2), .null), (.putfield 25, 3, (4, 4), .null)] (G := True) (c' := (21, [some (.ref 5), some (.int a1)], [], (mu M2 5 4 (M2 5 2)))) (by decide +kernel) rfl trivial ?_
    replace h := h (mu M2 5 4 (M2 5 2)) rfl
    generalize (mu M2 5 4 (M2 5 2)) = M3 at h ⊢
    exact WP.ret (.return_, 1, (0, 0), .null) (rk := 0) (by decide +kernel) (by decide +kernel) rfl trivial (hΦ _ h)
  · replace h := h.2 c1
    exact WP.ret (.return_, 1, (0, 0), .null) (rk := 0) (by decide +kernel) (by decide +kernel) rfl trivial (hΦ _ h)
/-- GearRoad$Tape.figureAt(I)I -/
def S_Tape_figureAt (M : Mm) (a1 : Int32) (Φ : Int32 → Prop) : Prop := S_Tape_letterAt M a1 (fun r1 => ((r1 < 48 → Φ (-1000000)) ∧ (¬ (r1 < 48) → ((57 < r1 → Φ (-1000000)) ∧ (¬ (57 < r1) → Φ (r1 - 48))))))
set_option maxRecDepth 100000 in
set_option maxHeartbeats 4000000 in
theorem sp_Tape_figureAt {d : Nat} {Post : Option Value → Mm → Prop} {M : Mm} {a1 : Int32} {Φ : Int32 → Prop} (h : S_Tape_figureAt M a1 Φ) (hΦ : ∀ r, Φ r → Post (some (.int r)) M) : Ct (d + 2) 35 [.ref 5, .int a1] M Post := by
  refine Ct.go (n := 3) (E := [some (.ref 5), some (.int a1), none]) (by decide +kernel) (by simp [Value.category]) rfl ?_
  refine WP.blk [(.aload_n 0, 1, (0, 0), .null), (.iload_n 1, 1, (0, 0), .null)] (G := True) (c' := (2, [some (.ref 5), some (.int a1), none], [.int a1, .ref 5], M)) (by decide +kernel) rfl trivial ?_
  refine WP.call (.invokevirtual 104, 3, (30, 2), .retAddr 4) (by decide +kernel) rfl (sp_Tape_letterAt (d := d + 0) h (fun r1 h => ?_))
  show WP (Ct (d + 1)) 35 Post (5, [some (.ref 5), some (.int a1), none], [.int r1], M)
  refine WP.blk [(.istore_n 2, 1, (0, 0), .null), (.iload_n 2, 1, (0, 0), .null), (.bipush 48, 2, (0, 0), .int 48)] (G := True) (c' := (9, [some (.ref 5), some (.int a1), some (.int r1)], [.int 48, .int r1], M)) (by decide +kernel) rfl trivial ?_
  refine WP.br (.if_icmp .lt 16, 3, (25, 0), .null) (by decide +kernel) rfl (fun c2 => ?_) (fun c2 => ?_)
  · replace h := h.1 c2
    refine WP.blk [(.ldc 75, 2, (0, 0), .int (-1000000))] (G := True) (c' := (27, [some (.ref 5), some (.int a1), some (.int r1)], [.int (-1000000)], M)) (by decide +kernel) rfl trivial ?_
    exact WP.ret (.ireturn, 1, (0, 0), .null) (rk := 1) (by decide +kernel) (by decide +kernel) rfl trivial (hΦ _ h)
  · replace h := h.2 c2
    refine WP.blk [(.iload_n 2, 1, (0, 0), .null), (.bipush 57, 2, (0, 0), .int 57)] (G := True) (c' := (15, [some (.ref 5), some (.int a1), some (.int r1)], [.int 57, .int r1], M)) (by decide +kernel) rfl trivial ?_
    refine WP.br (.if_icmp .gt 10, 3, (25, 0), .null) (by decide +kernel) rfl (fun c3 => ?_) (fun c3 => ?_)
    · replace h := h.1 c3
      refine WP.blk [(.ldc 75, 2, (0, 0), .int (-1000000))] (G := True) (c' := (27, [some (.ref 5), some (.int a1), some (.int r1)], [.int (-1000000)], M)) (by decide +kernel) rfl trivial ?_
      exact WP.ret (.ireturn, 1, (0, 0), .null) (rk := 1) (by decide +kernel) (by decide +kernel) rfl trivial (hΦ _ h)
    · replace h := h.2 c3
      refine WP.blk [(.iload_n 2, 1, (0, 0), .null), (.bipush 48, 2, (0, 0), .int 48), (.isub, 1, (0, 0), .null), (.goto 5, 3, (27, 0), .null)] (G := True) (c' := (27, [some (.ref 5), some (.int a1), some (.int r1)], [.int (r1 - 48)], M)) (by decide +kernel) rfl trivial ?_
      exact WP.ret (.ireturn, 1, (0, 0), .null) (rk := 1) (by decide +kernel) (by decide +kernel) rfl trivial (hΦ _ h)
/-- GearRoad$Tape.figuresHere()I -/
def D_Tape_figuresHere_2 (M : Mm) (Φ : Int32 → Prop) (rec_2 : Int32 → Prop) : Int32 → Prop
  | x1 => ((80 ≤ x1 → Φ x1) ∧ (¬ (80 ≤ x1) → S_Tape_figureAt M ((M 5 2) + x1) (fun r3 => ((r3 = (-1000000) → Φ x1) ∧ (¬ (r3 = (-1000000)) → rec_2 (x1 + 1))))))
def S_Tape_figuresHere (M : Mm) (Φ : Int32 → Prop) : Prop := ∃ n, lp (D_Tape_figuresHere_2 M Φ) n 0
set_option maxRecDepth 100000 in
set_option maxHeartbeats 4000000 in
theorem L_Tape_figuresHere_2 {d : Nat} {Post : Option Value → Mm → Prop} {M : Mm} {rec_2 : Int32 → Prop} {Φ : Int32 → Prop} (hΦ : ∀ r, Φ r → Post (some (.int r)) M) (hrec_2 : ∀ (x1 : Int32), rec_2 x1 → WP (Ct (d + 2)) 34 Post (2, [some (.ref 5), some (.int x1)], [], M)) : ∀ (x1 : Int32), D_Tape_figuresHere_2 M Φ rec_2 x1 → WP (Ct (d + 2)) 34 Post (2, [some (.ref 5), some (.int x1)], [], M) := by
  intro x1 h
  replace h : ((80 ≤ x1 → Φ x1) ∧ (¬ (80 ≤ x1) → S_Tape_figureAt M ((M 5 2) + x1) (fun r3 => ((r3 = (-1000000) → Φ x1) ∧ (¬ (r3 = (-1000000)) → rec_2 (x1 + 1)))))) := h
  refine WP.blk [(.iload_n 1, 1, (0, 0), .null), (.bipush 80, 2, (0, 0), .int 80)] (G := True) (c' := (5, [some (.ref 5), some (.int x1)], [.int 80, .int x1], M)) (by decide +kernel) rfl trivial ?_
  refine WP.br (.if_icmp .ge 24, 3, (29, 0), .null) (by decide +kernel) rfl (fun c2 => ?_) (fun c2 => ?_)
  · replace h := h.1 c2
    refine WP.blk [(.iload_n 1, 1, (0, 0), .null)] (G := True) (c' := (30, [some (.ref 5), some (.int x1)], [.int x1], M)) (by decide +kernel) rfl trivial ?_
    exact WP.ret (.ireturn, 1, (0, 0), .null) (rk := 1) (by decide +kernel) (by decide +kernel) rfl trivial (hΦ _ h)
  · replace h := h.2 c2
    refine WP.blk [(.aload_n 0, 1, (0, 0), .null), (.aload_n 0, 1, (0, 0), .null), (.getfield 19, 3, (4, 2), .null), (.iload_n 1, 1, (0, 0), .null), (.iadd, 1, (0, 0), .null)] (G := True) (c' := (15, [some (.ref 5), some (.int x1)], [.int ((M 5 2) + x1), .ref 5], M)) (by decide +kernel) rfl trivial ?_
    refine WP.call (.invokevirtual 97, 3, (35, 2), .retAddr 4) (by decide +kernel) rfl (sp_Tape_figureAt (d := d + 0) h (fun r3 h => ?_))
    show WP (Ct (d + 2)) 34 Post (18, [some (.ref 5), some (.int x1)], [.int r3], M)
    refine WP.blk [(.ldc 75, 2, (0, 0), .int (-1000000))] (G := True) (c' := (20, [some (.ref 5), some (.int x1)], [.int (-1000000), .int r3], M)) (by decide +kernel) rfl trivial ?_
    refine WP.br (.if_icmp .eq 9, 3, (29, 0), .null) (by decide +kernel) rfl (fun c4 => ?_) (fun c4 => ?_)
    · replace h := h.1 c4
      refine WP.blk [(.iload_n 1, 1, (0, 0), .null)] (G := True) (c' := (30, [some (.ref 5), some (.int x1)], [.int x1], M)) (by decide +kernel) rfl trivial ?_
      exact WP.ret (.ireturn, 1, (0, 0), .null) (rk := 1) (by decide +kernel) (by decide +kernel) rfl trivial (hΦ _ h)
    · replace h := h.2 c4
      refine WP.blk [(.iinc 1 1, 3, (0, 0), .int 1), (.goto (-24), 3, (2, 0), .null)] (G := True) (c' := (2, [some (.ref 5), some (.int (x1 + 1))], [], M)) (by decide +kernel) rfl trivial ?_
      exact hrec_2 _ h
theorem P_Tape_figuresHere_2 {d : Nat} {Post : Option Value → Mm → Prop} {M : Mm} {Φ : Int32 → Prop} (hΦ : ∀ r, Φ r → Post (some (.int r)) M) : ∀ (n : Nat) (x1 : Int32), lp (D_Tape_figuresHere_2 M Φ) n x1 → WP (Ct (d + 2)) 34 Post (2, [some (.ref 5), some (.int x1)], [], M)
  | 0, x1, h => absurd h (by simp [lp])
  | n + 1, x1, h => L_Tape_figuresHere_2 hΦ (P_Tape_figuresHere_2 hΦ n) x1 h
set_option maxRecDepth 100000 in
set_option maxHeartbeats 4000000 in
theorem sp_Tape_figuresHere {d : Nat} {Post : Option Value → Mm → Prop} {M : Mm} {Φ : Int32 → Prop} (h : S_Tape_figuresHere M Φ) (hΦ : ∀ r, Φ r → Post (some (.int r)) M) : Ct (d + 3) 34 [.ref 5] M Post := by
  refine Ct.go (n := 2) (E := [some (.ref 5), none]) (by decide +kernel) (by simp [Value.category]) rfl ?_
  refine WP.blk [(.iconst 0, 1, (0, 0), .int 0), (.istore_n 1, 1, (0, 0), .null)] (G := True) (c' := (2, [some (.ref 5), some (.int 0)], [], M)) (by decide +kernel) rfl trivial ?_
  obtain ⟨n, h⟩ := h
  exact P_Tape_figuresHere_2 hΦ n _ h
/-- GearRoad$Tape.takeNumber(II)I -/
def D_Tape_takeNumber_81 (Φ : Int32 → Mm → Prop) : Int32 × Int32 × Mm → Prop
  | (x1, x2, M) => (∀ M3, M3 = mu M 5 2 ((M 5 2) + x1) → Φ x2 M3)
def D_Tape_takeNumber_35 (Φ : Int32 → Mm → Prop) (rec_35 : Int32 × Int32 × Int32 × Int32 × Int32 × Mm → Prop) : Int32 × Int32 × Int32 × Int32 × Int32 × Mm → Prop
  | (x1, x2, x3, x4, x5, M) => ((x3 ≤ x5 → S_within M x4 x1 x2 (fun r7 => ((r7 = 0 → S_Tape_fail M 2 (fun M9 => D_Tape_takeNumber_81 Φ (x3, x4, M9))) ∧ (¬ (r7 = 0) → D_Tape_takeNumber_81 Φ (x3, x4, M))))) ∧ (¬ (x3 ≤ x5) → S_Tape_figureAt M ((M 5 2) + x5) (fun r10 => rec_35 (x1, x2, x3, ((x4 * 10) + r10), (x5 + 1), M))))
def D_Tape_takeNumber_20 (Φ : Int32 → Mm → Prop) : Int32 × Int32 × Int32 × Mm → Prop
  | (x1, x2, x3, M) => (((M 5 3) = 0 → ∃ n, lp (D_Tape_takeNumber_35 Φ) n (x1, x2, x3, 0, 0, M)) ∧ (¬ ((M 5 3) = 0) → Φ 0 M))
def D_Tape_takeNumber_15 (Φ : Int32 → Mm → Prop) : Int32 × Int32 × Int32 × Mm → Prop
  | (x1, x2, x3, M) => S_Tape_fail M 1 (fun M4 => D_Tape_takeNumber_20 Φ (x1, x2, x3, M4))
def S_Tape_takeNumber (M : Mm) (a1 : Int32) (a2 : Int32) (Φ : Int32 → Mm → Prop) : Prop := S_Tape_figuresHere M (fun r1 => ((r1 < 1 → D_Tape_takeNumber_15 Φ (a1, a2, r1, M)) ∧ (¬ (r1 < 1) → ((r1 ≤ 2 → D_Tape_takeNumber_20 Φ (a1, a2, r1, M)) ∧ (¬ (r1 ≤ 2) → D_Tape_takeNumber_15 Φ (a1, a2, r1, M))))))
set_option maxRecDepth 100000 in
set_option maxHeartbeats 4000000 in
theorem L_Tape_takeNumber_81 {d : Nat} {Post : Option Value → Mm → Prop} {Φ : Int32 → Mm → Prop} (hΦ : ∀ r M1, Φ r M1 → Post (some (.int r)) M1) : ∀ (x1 : Int32) (x2 : Int32) (M : Mm), D_Tape_takeNumber_81 Φ (x1, x2, M) → WP (Ct (d + 3)) 33 Post (81, [some (.ref 5), none, none, some (.int x1), some (.int x2), none], [], M) := by
  intro x1 x2 M h
  replace h : (∀ M3, M3 = mu M 5 2 ((M 5 2) + x1) → Φ x2 M3) := h
  refine WP.blk [(.aload_n 0, 1, (0, 0), .null), (.dup, 1, (0, 0), .null), (.getfield 19, 3, (4, 2), .null), (.iload_n 3, 1, (0, 0), .null), (.iadd, 1, (0, 0), .null), (.putfield 19, 3, (4, 2), .null)] (G := True) (c' := (91, [some (.ref 5), none, none, some (.int x1), some (.int x2), none], [], (mu M 5 2 ((M 5 2) + x1)))) (by decide +kernel) rfl trivial ?_
  replace h := h (mu M 5 2 ((M 5 2) + x1)) rfl
  generalize (mu M 5 2 ((M 5 2) + x1)) = M3 at h ⊢
  refine WP.blk [(.iload 4, 2, (0, 0), .null)] (G := True) (c' := (93, [some (.ref 5), none, none, some (.int x1), some (.int x2), none], [.int x2], M3)) (by decide +kernel) rfl trivial ?_
  exact WP.ret (.ireturn, 1, (0, 0), .null) (rk := 1) (by decide +kernel) (by decide +kernel) rfl trivial (hΦ _ _ h)
set_option maxRecDepth 100000 in
set_option maxHeartbeats 4000000 in
theorem L_Tape_takeNumber_35 {d : Nat} {Post : Option Value → Mm → Prop} {rec_35 : Int32 × Int32 × Int32 × Int32 × Int32 × Mm → Prop} {Φ : Int32 → Mm → Prop} (hΦ : ∀ r M1, Φ r M1 → Post (some (.int r)) M1) (hrec_35 : ∀ (x1 : Int32) (x2 : Int32) (x3 : Int32) (x4 : Int32) (x5 : Int32) (M : Mm), rec_35 (x1, x2, x3, x4, x5, M) → WP (Ct (d + 3)) 33 Post (35, [some (.ref 5), some (.int x1), some (.int x2), some (.int x3), some (.int x4), some (.int x5)], [], M)) : ∀ (x1 : Int32) (x2 : Int32) (x3 : Int32) (x4 : Int32) (x5 : Int32) (M : Mm), D_Tape_takeNumber_35 Φ rec_35 (x1, x2, x3, x4, x5, M) → WP (Ct (d + 3)) 33 Post (35, [some (.ref 5), some (.int x1), some (.int x2), some (.int x3), some (.int x4), some (.int x5)], [], M) := by
  intro x1 x2 x3 x4 x5 M h
  replace h : ((x3 ≤ x5 → S_within M x4 x1 x2 (fun r7 => ((r7 = 0 → S_Tape_fail M 2 (fun M9 => D_Tape_takeNumber_81 Φ (x3, x4, M9))) ∧ (¬ (r7 = 0) → D_Tape_takeNumber_81 Φ (x3, x4, M))))) ∧ (¬ (x3 ≤ x5) → S_Tape_figureAt M ((M 5 2) + x5) (fun r10 => rec_35 (x1, x2, x3, ((x4 * 10) + r10), (x5 + 1), M)))) := h
  refine WP.blk [(.iload 5, 2, (0, 0), .null), (.iload_n 3, 1, (0, 0), .null)] (G := True) (c' := (38, [some (.ref 5), some (.int x1), some (.int x2), some (.int x3), some (.int x4), some (.int x5)], [.int x3, .int x5], M)) (by decide +kernel) rfl trivial ?_
  refine WP.br (.if_icmp .ge 28, 3, (66, 0), .null) (by decide +kernel) rfl (fun c6 => ?_) (fun c6 => ?_)
  · replace h := h.1 c6
    refine WP.blk [(.iload 4, 2, (0, 0), .null), (.iload_n 1, 1, (0, 0), .null), (.iload_n 2, 1, (0, 0), .null)] (G := True) (c' := (70, [some (.ref 5), some (.int x1), some (.int x2), some (.int x3), some (.int x4), some (.int x5)], [.int x2, .int x1, .int x4], M)) (by decide +kernel) rfl trivial ?_
    refine WP.call (.invokestatic 100, 3, (10, 3), .null) (by decide +kernel) rfl (sp_within (d := d + 2) h (fun r7 h => ?_))
    show WP (Ct (d + 3)) 33 Post (73, [some (.ref 5), some (.int x1), some (.int x2), some (.int x3), some (.int x4), some (.int x5)], [.int r7], M)
    refine WP.br (.ifCond .ne 8, 3, (81, 0), .null) (by decide +kernel) rfl (fun c8 => ?_) (fun c8 => ?_)
    · replace h := h.2 c8
      refine WP.fgt [some (.ref 5), none, none, some (.int x3), some (.int x4), none] (by simp [fgt]) ?_
      exact L_Tape_takeNumber_81 hΦ _ _ _ h
    · replace h := h.1 (Classical.not_not.mp c8)
      refine WP.blk [(.aload_n 0, 1, (0, 0), .null), (.iconst 2, 1, (0, 0), .int 2)] (G := True) (c' := (78, [some (.ref 5), some (.int x1), some (.int x2), some (.int x3), some (.int x4), some (.int x5)], [.int 2, .ref 5], M)) (by decide +kernel) rfl trivial ?_
      refine WP.call (.invokevirtual 50, 3, (31, 2), .retAddr 4) (by decide +kernel) rfl (sp_Tape_fail (d := d + 2) h (fun M9 h => ?_))
      show WP (Ct (d + 3)) 33 Post (81, [some (.ref 5), some (.int x1), some (.int x2), some (.int x3), some (.int x4), some (.int x5)], [], M9)
      refine WP.fgt [some (.ref 5), none, none, some (.int x3), some (.int x4), none] (by simp [fgt]) ?_
      exact L_Tape_takeNumber_81 hΦ _ _ _ h
  · replace h := h.2 c6
    refine WP.blk [(.iload 4, 2, (0, 0), .null), (.bipush 10, 2, (0, 0), .int 10), (.imul, 1, (0, 0), .null), (.aload_n 0, 1, (0, 0), .null), (.aload_n 0, 1, (0, 0), .null), (.getfield 19, 3, (4, 2), .null), (.iload 5, 2, (0, 0), .null), (.iadd, 1, (0, 0), .null)] (G := True) (c' := (54, [some (.ref 5), some (.int x1), some (.int x2), some (.int x3), some (.int x4), some (.int x5)], [.int ((M 5 2) + x5), .ref 5, .int (x4 * 10)], M)) (by decide +kernel) rfl trivial ?_
    refine WP.call (.invokevirtual 97, 3, (35, 2), .retAddr 4) (by decide +kernel) rfl (sp_Tape_figureAt (d := d + 1) h (fun r10 h => ?_))
    show WP (Ct (d + 3)) 33 Post (57, [some (.ref 5), some (.int x1), some (.int x2), some (.int x3), some (.int x4), some (.int x5)], [.int r10, .int (x4 * 10)], M)
    refine WP.blk [(.iadd, 1, (0, 0), .null), (.istore 4, 2, (0, 0), .null), (.iinc 5 1, 3, (0, 0), .int 1), (.goto (-28), 3, (35, 0), .null)] (G := True) (c' := (35, [some (.ref 5), some (.int x1), some (.int x2), some (.int x3), some (.int ((x4 * 10) + r10)), some (.int (x5 + 1))], [], M)) (by decide +kernel) rfl trivial ?_
    exact hrec_35 _ _ _ _ _ _ h
theorem P_Tape_takeNumber_35 {d : Nat} {Post : Option Value → Mm → Prop} {Φ : Int32 → Mm → Prop} (hΦ : ∀ r M1, Φ r M1 → Post (some (.int r)) M1) : ∀ (n : Nat) (x1 : Int32) (x2 : Int32) (x3 : Int32) (x4 : Int32) (x5 : Int32) (M : Mm), lp (D_Tape_takeNumber_35 Φ) n (x1, x2, x3, x4, x5, M) → WP (Ct (d + 3)) 33 Post (35, [some (.ref 5), some (.int x1), some (.int x2), some (.int x3), some (.int x4), some (.int x5)], [], M)
  | 0, x1, x2, x3, x4, x5, M, h => absurd h (by simp [lp])
  | n + 1, x1, x2, x3, x4, x5, M, h => L_Tape_takeNumber_35 hΦ (P_Tape_takeNumber_35 hΦ n) x1 x2 x3 x4 x5 M h
set_option maxRecDepth 100000 in
set_option maxHeartbeats 4000000 in
theorem L_Tape_takeNumber_20 {d : Nat} {Post : Option Value → Mm → Prop} {Φ : Int32 → Mm → Prop} (hΦ : ∀ r M1, Φ r M1 → Post (some (.int r)) M1) : ∀ (x1 : Int32) (x2 : Int32) (x3 : Int32) (M : Mm), D_Tape_takeNumber_20 Φ (x1, x2, x3, M) → WP (Ct (d + 3)) 33 Post (20, [some (.ref 5), some (.int x1), some (.int x2), some (.int x3), none, none], [], M) := by
  intro x1 x2 x3 M h
  replace h : (((M 5 3) = 0 → ∃ n, lp (D_Tape_takeNumber_35 Φ) n (x1, x2, x3, 0, 0, M)) ∧ (¬ ((M 5 3) = 0) → Φ 0 M)) := h
  refine WP.blk [(.aload_n 0, 1, (0, 0), .null), (.getfield 22, 3, (4, 3), .null)] (G := True) (c' := (24, [some (.ref 5), some (.int x1), some (.int x2), some (.int x3), none, none], [.int (M 5 3)], M)) (by decide +kernel) rfl trivial ?_
  refine WP.br (.ifCond .eq 5, 3, (29, 0), .null) (by decide +kernel) rfl (fun c4 => ?_) (fun c4 => ?_)
  · replace h := h.1 c4
    refine WP.blk [(.iconst 0, 1, (0, 0), .int 0), (.istore 4, 2, (0, 0), .null), (.iconst 0, 1, (0, 0), .int 0), (.istore 5, 2, (0, 0), .null)] (G := True) (c' := (35, [some (.ref 5), some (.int x1), some (.int x2), some (.int x3), some (.int 0), some (.int 0)], [], M)) (by decide +kernel) rfl trivial ?_
    obtain ⟨n, h⟩ := h
    exact P_Tape_takeNumber_35 hΦ n _ _ _ _ _ _ h
  · replace h := h.2 c4
    refine WP.blk [(.iconst 0, 1, (0, 0), .int 0)] (G := True) (c' := (28, [some (.ref 5), some (.int x1), some (.int x2), some (.int x3), none, none], [.int 0], M)) (by decide +kernel) rfl trivial ?_
    exact WP.ret (.ireturn, 1, (0, 0), .null) (rk := 1) (by decide +kernel) (by decide +kernel) rfl trivial (hΦ _ _ h)
set_option maxRecDepth 100000 in
set_option maxHeartbeats 4000000 in
theorem L_Tape_takeNumber_15 {d : Nat} {Post : Option Value → Mm → Prop} {Φ : Int32 → Mm → Prop} (hΦ : ∀ r M1, Φ r M1 → Post (some (.int r)) M1) : ∀ (x1 : Int32) (x2 : Int32) (x3 : Int32) (M : Mm), D_Tape_takeNumber_15 Φ (x1, x2, x3, M) → WP (Ct (d + 3)) 33 Post (15, [some (.ref 5), some (.int x1), some (.int x2), some (.int x3), none, none], [], M) := by
  intro x1 x2 x3 M h
  replace h : S_Tape_fail M 1 (fun M4 => D_Tape_takeNumber_20 Φ (x1, x2, x3, M4)) := h
  refine WP.blk [(.aload_n 0, 1, (0, 0), .null), (.iconst 1, 1, (0, 0), .int 1)] (G := True) (c' := (17, [some (.ref 5), some (.int x1), some (.int x2), some (.int x3), none, none], [.int 1, .ref 5], M)) (by decide +kernel) rfl trivial ?_
  refine WP.call (.invokevirtual 50, 3, (31, 2), .retAddr 4) (by decide +kernel) rfl (sp_Tape_fail (d := d + 2) h (fun M4 h => ?_))
  show WP (Ct (d + 3)) 33 Post (20, [some (.ref 5), some (.int x1), some (.int x2), some (.int x3), none, none], [], M4)
  exact L_Tape_takeNumber_20 hΦ _ _ _ _ h
set_option maxRecDepth 100000 in
set_option maxHeartbeats 4000000 in
theorem sp_Tape_takeNumber {d : Nat} {Post : Option Value → Mm → Prop} {M : Mm} {a1 : Int32} {a2 : Int32} {Φ : Int32 → Mm → Prop} (h : S_Tape_takeNumber M a1 a2 Φ) (hΦ : ∀ r M1, Φ r M1 → Post (some (.int r)) M1) : Ct (d + 4) 33 [.ref 5, .int a1, .int a2] M Post := by
  refine Ct.go (n := 6) (E := [some (.ref 5), some (.int a1), some (.int a2), none, none, none]) (by decide +kernel) (by simp [Value.category]) rfl ?_
  refine WP.blk [(.aload_n 0, 1, (0, 0), .null)] (G := True) (c' := (1, [some (.ref 5), some (.int a1), some (.int a2), none, none, none], [.ref 5], M)) (by decide +kernel) rfl trivial ?_
  refine WP.call (.invokevirtual 94, 3, (34, 1), .retAddr 4) (by decide +kernel) rfl (sp_Tape_figuresHere (d := d + 0) h (fun r1 h => ?_))
  show WP (Ct (d + 3)) 33 Post (4, [some (.ref 5), some (.int a1), some (.int a2), none, none, none], [.int r1], M)
  refine WP.blk [(.istore_n 3, 1, (0, 0), .null), (.iload_n 3, 1, (0, 0), .null), (.iconst 1, 1, (0, 0), .int 1)] (G := True) (c' := (7, [some (.ref 5), some (.int a1), some (.int a2), some (.int r1), none, none], [.int 1, .int r1], M)) (by decide +kernel) rfl trivial ?_
  refine WP.br (.if_icmp .lt 8, 3, (15, 0), .null) (by decide +kernel) rfl (fun c2 => ?_) (fun c2 => ?_)
  · replace h := h.1 c2
    exact L_Tape_takeNumber_15 hΦ _ _ _ _ h
  · replace h := h.2 c2
    refine WP.blk [(.iload_n 3, 1, (0, 0), .null), (.iconst 2, 1, (0, 0), .int 2)] (G := True) (c' := (12, [some (.ref 5), some (.int a1), some (.int a2), some (.int r1), none, none], [.int 2, .int r1], M)) (by decide +kernel) rfl trivial ?_
    refine WP.br (.if_icmp .le 8, 3, (20, 0), .null) (by decide +kernel) rfl (fun c3 => ?_) (fun c3 => ?_)
    · replace h := h.1 c3
      exact L_Tape_takeNumber_20 hΦ _ _ _ _ h
    · replace h := h.2 c3
      exact L_Tape_takeNumber_15 hΦ _ _ _ _ h
/-- GearRoad$Tape.numberBehind(II)I -/
def D_Tape_numberBehind_40 (Φ : Int32 → Mm → Prop) : Int32 × Mm → Prop
  | (x1, M) => (∀ M2, M2 = mu M 5 2 ((M 5 2) + 1) → Φ x1 M2)
def S_Tape_numberBehind (M : Mm) (a1 : Int32) (a2 : Int32) (Φ : Int32 → Mm → Prop) : Prop := (((M 5 3) = 0 → (∀ M2, M2 = mu M 5 2 ((M 5 2) + 1) → S_Tape_takeNumber M2 a1 a2 (fun r3 M3 => S_Tape_next M3 (fun r4 => ((r4 = 59 → D_Tape_numberBehind_40 Φ (r3, M3)) ∧ (¬ (r4 = 59) → S_Tape_fail M3 1 (fun M6 => D_Tape_numberBehind_40 Φ (r3, M6)))))))) ∧ (¬ ((M 5 3) = 0) → Φ 0 M))
set_option maxRecDepth 100000 in
set_option maxHeartbeats 4000000 in
theorem L_Tape_numberBehind_40 {d : Nat} {Post : Option Value → Mm → Prop} {Φ : Int32 → Mm → Prop} (hΦ : ∀ r M1, Φ r M1 → Post (some (.int r)) M1) : ∀ (x1 : Int32) (M : Mm), D_Tape_numberBehind_40 Φ (x1, M) → WP (Ct (d + 4)) 32 Post (40, [some (.ref 5), none, none, some (.int x1)], [], M) := by
  intro x1 M h
  replace h : (∀ M2, M2 = mu M 5 2 ((M 5 2) + 1) → Φ x1 M2) := h
  refine WP.blk [(.aload_n 0, 1, (0, 0), .null), (.dup, 1, (0, 0), .null), (.getfield 19, 3, (4, 2), .null), (.iconst 1, 1, (0, 0), .int 1), (.iadd, 1, (0, 0), .null), (.putfield 19, 3, (4, 2), .null)] (G := True) (c' := (50, [some (.ref 5), none, none, some (.int x1)], [], (mu M 5 2 ((M 5 2) + 1)))) (by decide +kernel) rfl trivial ?_
  replace h := h (mu M 5 2 ((M 5 2) + 1)) rfl
  generalize (mu M 5 2 ((M 5 2) + 1)) = M2 at h ⊢
  refine WP.blk [(.iload_n 3, 1, (0, 0), .null)] (G := True) (c' := (51, [some (.ref 5), none, none, some (.int x1)], [.int x1], M2)) (by decide +kernel) rfl trivial ?_
  exact WP.ret (.ireturn, 1, (0, 0), .null) (rk := 1) (by decide +kernel) (by decide +kernel) rfl trivial (hΦ _ _ h)
set_option maxRecDepth 100000 in
set_option maxHeartbeats 4000000 in
theorem sp_Tape_numberBehind {d : Nat} {Post : Option Value → Mm → Prop} {M : Mm} {a1 : Int32} {a2 : Int32} {Φ : Int32 → Mm → Prop} (h : S_Tape_numberBehind M a1 a2 Φ) (hΦ : ∀ r M1, Φ r M1 → Post (some (.int r)) M1) : Ct (d + 5) 32 [.ref 5, .int a1, .int a2] M Post := by
  refine Ct.go (n := 4) (E := [some (.ref 5), some (.int a1), some (.int a2), none]) (by decide +kernel) (by simp [Value.category]) rfl ?_
  refine WP.blk [(.aload_n 0, 1, (0, 0), .null), (.getfield 22, 3, (4, 3), .null)] (G := True) (c' := (4, [some (.ref 5), some (.int a1), some (.int a2), none], [.int (M 5 3)], M)) (by decide +kernel) rfl trivial ?_
  refine WP.br (.ifCond .eq 5, 3, (9, 0), .null) (by decide +kernel) rfl (fun c1 => ?_) (fun c1 => ?_)
  · replace h := h.1 c1
    refine WP.blk [(.aload_n 0, 1, (0, 0), .null), (.dup, 1, (0, 0), .null), (.getfield 19, 3, (4, 2), .null), (.iconst 1, 1, (0, 0), .int 1), (.iadd, 1, (0, 0), .null), (.putfield 19, 3, (4, 2), .null)] (G := True) (c' := (19, [some (.ref 5), some (.int a1), some (.int a2), none], [], (mu M 5 2 ((M 5 2) + 1)))) (by decide +kernel) rfl trivial ?_
    replace h := h (mu M 5 2 ((M 5 2) + 1)) rfl
    generalize (mu M 5 2 ((M 5 2) + 1)) = M2 at h ⊢
    refine WP.blk [(.aload_n 0, 1, (0, 0), .null), (.iload_n 1, 1, (0, 0), .null), (.iload_n 2, 1, (0, 0), .null)] (G := True) (c' := (22, [some (.ref 5), some (.int a1), some (.int a2), none], [.int a2, .int a1, .ref 5], M2)) (by decide +kernel) rfl trivial ?_
    refine WP.call (.invokevirtual 91, 3, (33, 3), .retAddr 4) (by decide +kernel) rfl (sp_Tape_takeNumber (d := d + 0) h (fun r3 M3 h => ?_))
    show WP (Ct (d + 4)) 32 Post (25, [some (.ref 5), some (.int a1), some (.int a2), none], [.int r3], M3)
    refine WP.blk [(.istore_n 3, 1, (0, 0), .null), (.aload_n 0, 1, (0, 0), .null)] (G := True) (c' := (27, [some (.ref 5), some (.int a1), some (.int a2), some (.int r3)], [.ref 5], M3)) (by decide +kernel) rfl trivial ?_
    refine WP.call (.invokevirtual 46, 3, (29, 1), .retAddr 4) (by decide +kernel) rfl (sp_Tape_next (d := d + 2) h (fun r4 h => ?_))
    show WP (Ct (d + 4)) 32 Post (30, [some (.ref 5), some (.int a1), some (.int a2), some (.int r3)], [.int r4], M3)
    refine WP.blk [(.bipush 59, 2, (0, 0), .int 59)] (G := True) (c' := (32, [some (.ref 5), some (.int a1), some (.int a2), some (.int r3)], [.int 59, .int r4], M3)) (by decide +kernel) rfl trivial ?_
    refine WP.br (.if_icmp .eq 8, 3, (40, 0), .null) (by decide +kernel) rfl (fun c5 => ?_) (fun c5 => ?_)
    · replace h := h.1 c5
      refine WP.fgt [some (.ref 5), none, none, some (.int r3)] (by simp [fgt]) ?_
      exact L_Tape_numberBehind_40 hΦ _ _ h
    · replace h := h.2 c5
      refine WP.blk [(.aload_n 0, 1, (0, 0), .null), (.iconst 1, 1, (0, 0), .int 1)] (G := True) (c' := (37, [some (.ref 5), some (.int a1), some (.int a2), some (.int r3)], [.int 1, .ref 5], M3)) (by decide +kernel) rfl trivial ?_
      refine WP.call (.invokevirtual 50, 3, (31, 2), .retAddr 4) (by decide +kernel) rfl (sp_Tape_fail (d := d + 3) h (fun M6 h => ?_))
      show WP (Ct (d + 4)) 32 Post (40, [some (.ref 5), some (.int a1), some (.int a2), some (.int r3)], [], M6)
      refine WP.fgt [some (.ref 5), none, none, some (.int r3)] (by simp [fgt]) ?_
      exact L_Tape_numberBehind_40 hΦ _ _ h
  · replace h := h.2 c1
    refine WP.blk [(.iconst 0, 1, (0, 0), .int 0)] (G := True) (c' := (8, [some (.ref 5), some (.int a1), some (.int a2), none], [.int 0], M)) (by decide +kernel) rfl trivial ?_
    exact WP.ret (.ireturn, 1, (0, 0), .null) (rk := 1) (by decide +kernel) (by decide +kernel) rfl trivial (hΦ _ _ h)
/-- GearRoad$Tape.readLaw(LGearRoad$Bike;)V -/
def D_Tape_readLaw_14 (Φ : Mm → Prop) : Mm → Prop
  | M => S_Tape_numberBehind M 1 99 (fun r1 M1 => (∀ M2, M2 = mu M1 13 4 r1 → Φ M2))
def S_Tape_readLaw (M : Mm) (Φ : Mm → Prop) : Prop := S_Tape_next M (fun r1 => ((r1 = 98 → D_Tape_readLaw_14 Φ M) ∧ (¬ (r1 = 98) → S_Tape_fail M 1 (fun M3 => D_Tape_readLaw_14 Φ M3))))
set_option maxRecDepth 100000 in
set_option maxHeartbeats 4000000 in
theorem L_Tape_readLaw_14 {d : Nat} {Post : Option Value → Mm → Prop} {Φ : Mm → Prop} (hΦ : ∀ M1, Φ M1 → Post none M1) : ∀ (M : Mm), D_Tape_readLaw_14 Φ M → WP (Ct (d + 5)) 28 Post (14, [some (.ref 5), some (.ref 13)], [], M) := by
  intro M h
  replace h : S_Tape_numberBehind M 1 99 (fun r1 M1 => (∀ M2, M2 = mu M1 13 4 r1 → Φ M2)) := h
  refine WP.blk [(.aload_n 1, 1, (0, 0), .null), (.aload_n 0, 1, (0, 0), .null), (.iconst 1, 1, (0, 0), .int 1), (.bipush 99, 2, (0, 0), .int 99)] (G := True) (c' := (19, [some (.ref 5), some (.ref 13)], [.int 99, .int 1, .ref 5, .ref 13], M)) (by decide +kernel) rfl trivial ?_
  refine WP.call (.invokevirtual 58, 3, (32, 3), .retAddr 4) (by decide +kernel) rfl (sp_Tape_numberBehind (d := d + 0) h (fun r1 M1 h => ?_))
  show WP (Ct (d + 5)) 28 Post (22, [some (.ref 5), some (.ref 13)], [.int r1, .ref 13], M1)
  refine WP.blk [(.putfield 62, 3, (1, 4), .null)] (G := True) (c' := (25, [some (.ref 5), some (.ref 13)], [], (mu M1 13 4 r1))) (by decide +kernel) rfl trivial ?_
  replace h := h (mu M1 13 4 r1) rfl
  generalize (mu M1 13 4 r1) = M2 at h ⊢
  exact WP.ret (.return_, 1, (0, 0), .null) (rk := 0) (by decide +kernel) (by decide +kernel) rfl trivial (hΦ _ h)
set_option maxRecDepth 100000 in
set_option maxHeartbeats 4000000 in
theorem sp_Tape_readLaw {d : Nat} {Post : Option Value → Mm → Prop} {M : Mm} {Φ : Mm → Prop} (h : S_Tape_readLaw M Φ) (hΦ : ∀ M1, Φ M1 → Post none M1) : Ct (d + 6) 28 [.ref 5, .ref 13] M Post := by
  refine Ct.go (n := 2) (E := [some (.ref 5), some (.ref 13)]) (by decide +kernel) (by simp [Value.category]) rfl ?_
  refine WP.blk [(.aload_n 0, 1, (0, 0), .null)] (G := True) (c' := (1, [some (.ref 5), some (.ref 13)], [.ref 5], M)) (by decide +kernel) rfl trivial ?_
  refine WP.call (.invokevirtual 46, 3, (29, 1), .retAddr 4) (by decide +kernel) rfl (sp_Tape_next (d := d + 3) h (fun r1 h => ?_))
  show WP (Ct (d + 5)) 28 Post (4, [some (.ref 5), some (.ref 13)], [.int r1], M)
  refine WP.blk [(.bipush 98, 2, (0, 0), .int 98)] (G := True) (c' := (6, [some (.ref 5), some (.ref 13)], [.int 98, .int r1], M)) (by decide +kernel) rfl trivial ?_
  refine WP.br (.if_icmp .eq 8, 3, (14, 0), .null) (by decide +kernel) rfl (fun c2 => ?_) (fun c2 => ?_)
  · replace h := h.1 c2
    exact L_Tape_readLaw_14 hΦ _ h
  · replace h := h.2 c2
    refine WP.blk [(.aload_n 0, 1, (0, 0), .null), (.iconst 1, 1, (0, 0), .int 1)] (G := True) (c' := (11, [some (.ref 5), some (.ref 13)], [.int 1, .ref 5], M)) (by decide +kernel) rfl trivial ?_
    refine WP.call (.invokevirtual 50, 3, (31, 2), .retAddr 4) (by decide +kernel) rfl (sp_Tape_fail (d := d + 4) h (fun M3 h => ?_))
    show WP (Ct (d + 5)) 28 Post (14, [some (.ref 5), some (.ref 13)], [], M3)
    exact L_Tape_readLaw_14 hΦ _ h
/-- GearRoad$Tape.readRings(LGearRoad$Bike;)V -/
def D_Tape_readRings_66 (Φ : Mm → Prop) : Mm → Prop
  | M => (((M 13 1) = 0 → S_Tape_fail M 1 (fun M2 => Φ M2)) ∧ (¬ ((M 13 1) = 0) → Φ M))
def D_Tape_readRings_26 (Φ : Mm → Prop) (rec_2 : Int32 × Mm → Prop) : Int32 × Mm → Prop
  | (x1, M) => S_Tape_numberBehind M 20 60 (fun r2 M2 => (((M2 5 3) = 0 → vp_in x1 3 ∧ (∀ M4, M4 = mu M2 14 (Int32.toNatClampNeg x1) r2 → (∀ M5, M5 = mu M4 13 1 ((M4 13 1) + 1) → rec_2 ((x1 + 1), M5)))) ∧ (¬ ((M2 5 3) = 0) → Φ M2)))
def D_Tape_readRings_2 (Φ : Mm → Prop) (rec_2 : Int32 × Mm → Prop) : Int32 × Mm → Prop
  | (x1, M) => ((3 < x1 → D_Tape_readRings_66 Φ M) ∧ (¬ (3 < x1) → S_Tape_next M (fun r3 => ((r3 = 107 → ((x1 = 3 → S_Tape_fail M 3 (fun M6 => D_Tape_readRings_26 Φ rec_2 (x1, M6))) ∧ (¬ (x1 = 3) → D_Tape_readRings_26 Φ rec_2 (x1, M)))) ∧ (¬ (r3 = 107) → D_Tape_readRings_66 Φ M)))))
def S_Tape_readRings (M : Mm) (Φ : Mm → Prop) : Prop := ∃ n, lp (D_Tape_readRings_2 Φ) n (0, M)
set_option maxRecDepth 100000 in
set_option maxHeartbeats 4000000 in
theorem L_Tape_readRings_66 {d : Nat} {Post : Option Value → Mm → Prop} {Φ : Mm → Prop} (hΦ : ∀ M1, Φ M1 → Post none M1) : ∀ (M : Mm), D_Tape_readRings_66 Φ M → WP (Ct (d + 5)) 36 Post (66, [some (.ref 5), some (.ref 13), none, none], [], M) := by
  intro M h
  replace h : (((M 13 1) = 0 → S_Tape_fail M 1 (fun M2 => Φ M2)) ∧ (¬ ((M 13 1) = 0) → Φ M)) := h
  refine WP.blk [(.aload_n 1, 1, (0, 0), .null), (.getfield 68, 3, (1, 1), .null)] (G := True) (c' := (70, [some (.ref 5), some (.ref 13), none, none], [.int (M 13 1)], M)) (by decide +kernel) rfl trivial ?_
  refine WP.br (.ifCond .ne 8, 3, (78, 0), .null) (by decide +kernel) rfl (fun c1 => ?_) (fun c1 => ?_)
  · replace h := h.2 c1
    exact WP.ret (.return_, 1, (0, 0), .null) (rk := 0) (by decide +kernel) (by decide +kernel) rfl trivial (hΦ _ h)
  · replace h := h.1 (Classical.not_not.mp c1)
    refine WP.blk [(.aload_n 0, 1, (0, 0), .null), (.iconst 1, 1, (0, 0), .int 1)] (G := True) (c' := (75, [some (.ref 5), some (.ref 13), none, none], [.int 1, .ref 5], M)) (by decide +kernel) rfl trivial ?_
    refine WP.call (.invokevirtual 50, 3, (31, 2), .retAddr 4) (by decide +kernel) rfl (sp_Tape_fail (d := d + 4) h (fun M2 h => ?_))
    show WP (Ct (d + 5)) 36 Post (78, [some (.ref 5), some (.ref 13), none, none], [], M2)
    exact WP.ret (.return_, 1, (0, 0), .null) (rk := 0) (by decide +kernel) (by decide +kernel) rfl trivial (hΦ _ h)
set_option maxRecDepth 100000 in
set_option maxHeartbeats 4000000 in
theorem L_Tape_readRings_26 {d : Nat} {Post : Option Value → Mm → Prop} {rec_2 : Int32 × Mm → Prop} {Φ : Mm → Prop} (hΦ : ∀ M1, Φ M1 → Post none M1) (hrec_2 : ∀ (x1 : Int32) (M : Mm), rec_2 (x1, M) → WP (Ct (d + 5)) 36 Post (2, [some (.ref 5), some (.ref 13), some (.int x1), none], [], M)) : ∀ (x1 : Int32) (M : Mm), D_Tape_readRings_26 Φ rec_2 (x1, M) → WP (Ct (d + 5)) 36 Post (26, [some (.ref 5), some (.ref 13), some (.int x1), none], [], M) := by
  intro x1 M h
  replace h : S_Tape_numberBehind M 20 60 (fun r2 M2 => (((M2 5 3) = 0 → vp_in x1 3 ∧ (∀ M4, M4 = mu M2 14 (Int32.toNatClampNeg x1) r2 → (∀ M5, M5 = mu M4 13 1 ((M4 13 1) + 1) → rec_2 ((x1 + 1), M5)))) ∧ (¬ ((M2 5 3) = 0) → Φ M2))) := h
  refine WP.blk [(.aload_n 0, 1, (0, 0), .null), (.bipush 20, 2, (0, 0), .int 20), (.bipush 60, 2, (0, 0), .int 60)] (G := True) (c' := (31, [some (.ref 5), some (.ref 13), some (.int x1), none], [.int 60, .int 20, .ref 5], M)) (by decide +kernel) rfl trivial ?_
  refine WP.call (.invokevirtual 58, 3, (32, 3), .retAddr 4) (by decide +kernel) rfl (sp_Tape_numberBehind (d := d + 0) h (fun r2 M2 h => ?_))
  show WP (Ct (d + 5)) 36 Post (34, [some (.ref 5), some (.ref 13), some (.int x1), none], [.int r2], M2)
  refine WP.blk [(.istore_n 3, 1, (0, 0), .null), (.aload_n 0, 1, (0, 0), .null), (.getfield 22, 3, (4, 3), .null)] (G := True) (c' := (39, [some (.ref 5), some (.ref 13), some (.int x1), some (.int r2)], [.int (M2 5 3)], M2)) (by decide +kernel) rfl trivial ?_
  refine WP.br (.ifCond .eq 4, 3, (43, 0), .null) (by decide +kernel) rfl (fun c3 => ?_) (fun c3 => ?_)
  · replace h := h.1 c3
    refine WP.blk [(.aload_n 1, 1, (0, 0), .null), (.getfield 65, 3, (1, 9), .null), (.iload_n 2, 1, (0, 0), .null), (.iload_n 3, 1, (0, 0), .null), (.iastore, 1, (0, 0), .null)] (G := vp_in x1 3 ∧ True) (c' := (50, [some (.ref 5), some (.ref 13), some (.int x1), some (.int r2)], [], (mu M2 14 (Int32.toNatClampNeg x1) r2))) (by decide +kernel) rfl ⟨h.1, trivial⟩ ?_
    replace h := h.2
    replace h := h (mu M2 14 (Int32.toNatClampNeg x1) r2) rfl
    generalize (mu M2 14 (Int32.toNatClampNeg x1) r2) = M4 at h ⊢
    refine WP.blk [(.aload_n 1, 1, (0, 0), .null), (.dup, 1, (0, 0), .null), (.getfield 68, 3, (1, 1), .null), (.iconst 1, 1, (0, 0), .int 1), (.iadd, 1, (0, 0), .null), (.putfield 68, 3, (1, 1), .null)] (G := True) (c' := (60, [some (.ref 5), some (.ref 13), some (.int x1), some (.int r2)], [], (mu M4 13 1 ((M4 13 1) + 1)))) (by decide +kernel) rfl trivial ?_
    replace h := h (mu M4 13 1 ((M4 13 1) + 1)) rfl
    generalize (mu M4 13 1 ((M4 13 1) + 1)) = M5 at h ⊢
    refine WP.blk [(.iinc 2 1, 3, (0, 0), .int 1), (.goto (-61), 3, (2, 0), .null)] (G := True) (c' := (2, [some (.ref 5), some (.ref 13), some (.int (x1 + 1)), some (.int r2)], [], M5)) (by decide +kernel) rfl trivial ?_
    refine WP.fgt [some (.ref 5), some (.ref 13), some (.int (x1 + 1)), none] (by simp [fgt]) ?_
    exact hrec_2 _ _ h
  · replace h := h.2 c3
    exact WP.ret (.return_, 1, (0, 0), .null) (rk := 0) (by decide +kernel) (by decide +kernel) rfl trivial (hΦ _ h)
set_option maxRecDepth 100000 in
set_option maxHeartbeats 4000000 in
theorem L_Tape_readRings_2 {d : Nat} {Post : Option Value → Mm → Prop} {rec_2 : Int32 × Mm → Prop} {Φ : Mm → Prop} (hΦ : ∀ M1, Φ M1 → Post none M1) (hrec_2 : ∀ (x1 : Int32) (M : Mm), rec_2 (x1, M) → WP (Ct (d + 5)) 36 Post (2, [some (.ref 5), some (.ref 13), some (.int x1), none], [], M)) : ∀ (x1 : Int32) (M : Mm), D_Tape_readRings_2 Φ rec_2 (x1, M) → WP (Ct (d + 5)) 36 Post (2, [some (.ref 5), some (.ref 13), some (.int x1), none], [], M) := by
  intro x1 M h
  replace h : ((3 < x1 → D_Tape_readRings_66 Φ M) ∧ (¬ (3 < x1) → S_Tape_next M (fun r3 => ((r3 = 107 → ((x1 = 3 → S_Tape_fail M 3 (fun M6 => D_Tape_readRings_26 Φ rec_2 (x1, M6))) ∧ (¬ (x1 = 3) → D_Tape_readRings_26 Φ rec_2 (x1, M)))) ∧ (¬ (r3 = 107) → D_Tape_readRings_66 Φ M))))) := h
  refine WP.blk [(.iload_n 2, 1, (0, 0), .null), (.iconst 3, 1, (0, 0), .int 3)] (G := True) (c' := (4, [some (.ref 5), some (.ref 13), some (.int x1), none], [.int 3, .int x1], M)) (by decide +kernel) rfl trivial ?_
  refine WP.br (.if_icmp .gt 62, 3, (66, 0), .null) (by decide +kernel) rfl (fun c2 => ?_) (fun c2 => ?_)
  · replace h := h.1 c2
    refine WP.fgt [some (.ref 5), some (.ref 13), none, none] (by simp [fgt]) ?_
    exact L_Tape_readRings_66 hΦ _ h
  · replace h := h.2 c2
    refine WP.blk [(.aload_n 0, 1, (0, 0), .null)] (G := True) (c' := (8, [some (.ref 5), some (.ref 13), some (.int x1), none], [.ref 5], M)) (by decide +kernel) rfl trivial ?_
    refine WP.call (.invokevirtual 46, 3, (29, 1), .retAddr 4) (by decide +kernel) rfl (sp_Tape_next (d := d + 3) h (fun r3 h => ?_))
    show WP (Ct (d + 5)) 36 Post (11, [some (.ref 5), some (.ref 13), some (.int x1), none], [.int r3], M)
    refine WP.blk [(.bipush 107, 2, (0, 0), .int 107)] (G := True) (c' := (13, [some (.ref 5), some (.ref 13), some (.int x1), none], [.int 107, .int r3], M)) (by decide +kernel) rfl trivial ?_
    refine WP.br (.if_icmp .ne 53, 3, (66, 0), .null) (by decide +kernel) rfl (fun c4 => ?_) (fun c4 => ?_)
    · replace h := h.2 c4
      refine WP.fgt [some (.ref 5), some (.ref 13), none, none] (by simp [fgt]) ?_
      exact L_Tape_readRings_66 hΦ _ h
    · replace h := h.1 (Classical.not_not.mp c4)
      refine WP.blk [(.iload_n 2, 1, (0, 0), .null), (.iconst 3, 1, (0, 0), .int 3)] (G := True) (c' := (18, [some (.ref 5), some (.ref 13), some (.int x1), none], [.int 3, .int x1], M)) (by decide +kernel) rfl trivial ?_
      refine WP.br (.if_icmp .ne 8, 3, (26, 0), .null) (by decide +kernel) rfl (fun c5 => ?_) (fun c5 => ?_)
      · replace h := h.2 c5
        exact L_Tape_readRings_26 hΦ hrec_2 _ _ h
      · replace h := h.1 (Classical.not_not.mp c5)
        refine WP.blk [(.aload_n 0, 1, (0, 0), .null), (.iconst 3, 1, (0, 0), .int 3)] (G := True) (c' := (23, [some (.ref 5), some (.ref 13), some (.int x1), none], [.int 3, .ref 5], M)) (by decide +kernel) rfl trivial ?_
        refine WP.call (.invokevirtual 50, 3, (31, 2), .retAddr 4) (by decide +kernel) rfl (sp_Tape_fail (d := d + 4) h (fun M6 h => ?_))
        show WP (Ct (d + 5)) 36 Post (26, [some (.ref 5), some (.ref 13), some (.int x1), none], [], M6)
        exact L_Tape_readRings_26 hΦ hrec_2 _ _ h
theorem P_Tape_readRings_2 {d : Nat} {Post : Option Value → Mm → Prop} {Φ : Mm → Prop} (hΦ : ∀ M1, Φ M1 → Post none M1) : ∀ (n : Nat) (x1 : Int32) (M : Mm), lp (D_Tape_readRings_2 Φ) n (x1, M) → WP (Ct (d + 5)) 36 Post (2, [some (.ref 5), some (.ref 13), some (.int x1), none], [], M)
  | 0, x1, M, h => absurd h (by simp [lp])
  | n + 1, x1, M, h => L_Tape_readRings_2 hΦ (P_Tape_readRings_2 hΦ n) x1 M h
set_option maxRecDepth 100000 in
set_option maxHeartbeats 4000000 in
theorem sp_Tape_readRings {d : Nat} {Post : Option Value → Mm → Prop} {M : Mm} {Φ : Mm → Prop} (h : S_Tape_readRings M Φ) (hΦ : ∀ M1, Φ M1 → Post none M1) : Ct (d + 6) 36 [.ref 5, .ref 13] M Post := by
  refine Ct.go (n := 4) (E := [some (.ref 5), some (.ref 13), none, none]) (by decide +kernel) (by simp [Value.category]) rfl ?_
  refine WP.blk [(.iconst 0, 1, (0, 0), .int 0), (.istore_n 2, 1, (0, 0), .null)] (G := True) (c' := (2, [some (.ref 5), some (.ref 13), some (.int 0), none], [], M)) (by decide +kernel) rfl trivial ?_
  obtain ⟨n, h⟩ := h
  exact P_Tape_readRings_2 hΦ n _ _ h
/-- GearRoad$Tape.sortOf(I)I -/
def S_Tape_sortOf (M : Mm) (a1 : Int32) (Φ : Int32 → Prop) : Prop := ((a1 = 102 → Φ 5) ∧ (¬ (a1 = 102) → ((a1 = 111 → Φ 4) ∧ (¬ (a1 = 111) → ((a1 = 112 → Φ 1) ∧ (¬ (a1 = 112) → ((a1 = 114 → Φ 3) ∧ (¬ (a1 = 114) → ((a1 = 119 → Φ 2) ∧ (¬ (a1 = 119) → Φ (-1000000)))))))))))
set_option maxRecDepth 100000 in
set_option maxHeartbeats 4000000 in
theorem sp_Tape_sortOf {d : Nat} {Post : Option Value → Mm → Prop} {M : Mm} {a1 : Int32} {Φ : Int32 → Prop} (h : S_Tape_sortOf M a1 Φ) (hΦ : ∀ r, Φ r → Post (some (.int r)) M) : Ct (d + 1) 38 [.int a1] M Post := by
  refine Ct.go (n := 1) (E := [some (.int a1)]) (by decide +kernel) (by simp [Value.category]) rfl ?_
  refine WP.blk [(.iload_n 0, 1, (0, 0), .null)] (G := True) (c' := (1, [some (.int a1)], [.int a1], M)) (by decide +kernel) rfl trivial ?_
  by_cases e1 : a1 = 102
  · refine WP.sw (.lookupswitch 61 #[(102, 59), (111, 57), (112, 51), (114, 55), (119, 53)], 51, (0, 0), .null) 60 (by decide +kernel) (Or.inr ⟨_, _, rfl⟩) (by rw [e1]; decide) ?_
    replace h := h.1 e1
    refine WP.blk [(.iconst 5, 1, (0, 0), .int 5)] (G := True) (c' := (61, [some (.int a1)], [.int 5], M)) (by decide +kernel) rfl trivial ?_
    exact WP.ret (.ireturn, 1, (0, 0), .null) (rk := 1) (by decide +kernel) (by decide +kernel) rfl trivial (hΦ _ h)
  replace h := h.2 e1
  by_cases e2 : a1 = 111
  · refine WP.sw (.lookupswitch 61 #[(102, 59), (111, 57), (112, 51), (114, 55), (119, 53)], 51, (0, 0), .null) 58 (by decide +kernel) (Or.inr ⟨_, _, rfl⟩) (by rw [e2]; decide) ?_
    replace h := h.1 e2
    refine WP.blk [(.iconst 4, 1, (0, 0), .int 4)] (G := True) (c' := (59, [some (.int a1)], [.int 4], M)) (by decide +kernel) rfl trivial ?_
    exact WP.ret (.ireturn, 1, (0, 0), .null) (rk := 1) (by decide +kernel) (by decide +kernel) rfl trivial (hΦ _ h)
  replace h := h.2 e2
  by_cases e3 : a1 = 112
  · refine WP.sw (.lookupswitch 61 #[(102, 59), (111, 57), (112, 51), (114, 55), (119, 53)], 51, (0, 0), .null) 52 (by decide +kernel) (Or.inr ⟨_, _, rfl⟩) (by rw [e3]; decide) ?_
    replace h := h.1 e3
    refine WP.blk [(.iconst 1, 1, (0, 0), .int 1)] (G := True) (c' := (53, [some (.int a1)], [.int 1], M)) (by decide +kernel) rfl trivial ?_
    exact WP.ret (.ireturn, 1, (0, 0), .null) (rk := 1) (by decide +kernel) (by decide +kernel) rfl trivial (hΦ _ h)
  replace h := h.2 e3
  by_cases e4 : a1 = 114
  · refine WP.sw (.lookupswitch 61 #[(102, 59), (111, 57), (112, 51), (114, 55), (119, 53)], 51, (0, 0), .null) 56 (by decide +kernel) (Or.inr ⟨_, _, rfl⟩) (by rw [e4]; decide) ?_
    replace h := h.1 e4
    refine WP.blk [(.iconst 3, 1, (0, 0), .int 3)] (G := True) (c' := (57, [some (.int a1)], [.int 3], M)) (by decide +kernel) rfl trivial ?_
    exact WP.ret (.ireturn, 1, (0, 0), .null) (rk := 1) (by decide +kernel) (by decide +kernel) rfl trivial (hΦ _ h)
  replace h := h.2 e4
  by_cases e5 : a1 = 119
  · refine WP.sw (.lookupswitch 61 #[(102, 59), (111, 57), (112, 51), (114, 55), (119, 53)], 51, (0, 0), .null) 54 (by decide +kernel) (Or.inr ⟨_, _, rfl⟩) (by rw [e5]; decide) ?_
    replace h := h.1 e5
    refine WP.blk [(.iconst 2, 1, (0, 0), .int 2)] (G := True) (c' := (55, [some (.int a1)], [.int 2], M)) (by decide +kernel) rfl trivial ?_
    exact WP.ret (.ireturn, 1, (0, 0), .null) (rk := 1) (by decide +kernel) (by decide +kernel) rfl trivial (hΦ _ h)
  replace h := h.2 e5
  refine WP.sw (.lookupswitch 61 #[(102, 59), (111, 57), (112, 51), (114, 55), (119, 53)], 51, (0, 0), .null) 62 (by decide +kernel) (Or.inr ⟨_, _, rfl⟩) (by simp only [swOff]; rw [lv_osw e1 (by decide), lv_osw e2 (by decide), lv_osw e3 (by decide), lv_osw e4 (by decide), lv_osw e5 (by decide)]; rfl) ?_
  refine WP.blk [(.ldc 75, 2, (0, 0), .int (-1000000))] (G := True) (c' := (64, [some (.int a1)], [.int (-1000000)], M)) (by decide +kernel) rfl trivial ?_
  exact WP.ret (.ireturn, 1, (0, 0), .null) (rk := 1) (by decide +kernel) (by decide +kernel) rfl trivial (hΦ _ h)
/-- GearRoad$Tape.readCogs(LGearRoad$Bike;)V -/
def D_Tape_readCogs_88 (Φ : Mm → Prop) : Mm → Prop
  | M => (((M 13 2) = 0 → S_Tape_fail M 1 (fun M2 => Φ M2)) ∧ (¬ ((M 13 2) = 0) → Φ M))
def D_Tape_readCogs_39 (Φ : Mm → Prop) (rec_2 : Int32 × Mm → Prop) : Int32 × Int32 × Mm → Prop
  | (x1, x2, M) => S_Tape_numberBehind M 10 40 (fun r3 M3 => (((M3 5 3) = 0 → vp_in x1 6 ∧ (∀ M5, M5 = mu M3 15 (Int32.toNatClampNeg x1) x2 → vp_in x1 6 ∧ (∀ M6, M6 = mu M5 16 (Int32.toNatClampNeg x1) r3 → (∀ M7, M7 = mu M6 13 2 ((M6 13 2) + 1) → rec_2 ((x1 + 1), M7))))) ∧ (¬ ((M3 5 3) = 0) → Φ M3)))
def D_Tape_readCogs_2 (Φ : Mm → Prop) (rec_2 : Int32 × Mm → Prop) : Int32 × Mm → Prop
  | (x1, M) => ((6 < x1 → D_Tape_readCogs_88 Φ M) ∧ (¬ (6 < x1) → S_Tape_next M (fun r3 => S_Tape_sortOf M r3 (fun r4 => ((r4 = (-1000000) → D_Tape_readCogs_88 Φ M) ∧ (¬ (r4 = (-1000000)) → S_Tape_next M (fun r6 => S_Tape_sortOf M r6 (fun r7 => ((x1 = 6 → S_Tape_fail M 3 (fun M9 => D_Tape_readCogs_39 Φ rec_2 (x1, r7, M9))) ∧ (¬ (x1 = 6) → D_Tape_readCogs_39 Φ rec_2 (x1, r7, M)))))))))))
def S_Tape_readCogs (M : Mm) (Φ : Mm → Prop) : Prop := ∃ n, lp (D_Tape_readCogs_2 Φ) n (0, M)
set_option maxRecDepth 100000 in
set_option maxHeartbeats 4000000 in
theorem L_Tape_readCogs_88 {d : Nat} {Post : Option Value → Mm → Prop} {Φ : Mm → Prop} (hΦ : ∀ M1, Φ M1 → Post none M1) : ∀ (M : Mm), D_Tape_readCogs_88 Φ M → WP (Ct (d + 5)) 37 Post (88, [some (.ref 5), some (.ref 13), none, none, none], [], M) := by
  intro M h
  replace h : (((M 13 2) = 0 → S_Tape_fail M 1 (fun M2 => Φ M2)) ∧ (¬ ((M 13 2) = 0) → Φ M)) := h
  refine WP.blk [(.aload_n 1, 1, (0, 0), .null), (.getfield 82, 3, (1, 2), .null)] (G := True) (c' := (92, [some (.ref 5), some (.ref 13), none, none, none], [.int (M 13 2)], M)) (by decide +kernel) rfl trivial ?_
  refine WP.br (.ifCond .ne 8, 3, (100, 0), .null) (by decide +kernel) rfl (fun c1 => ?_) (fun c1 => ?_)
  · replace h := h.2 c1
    exact WP.ret (.return_, 1, (0, 0), .null) (rk := 0) (by decide +kernel) (by decide +kernel) rfl trivial (hΦ _ h)
  · replace h := h.1 (Classical.not_not.mp c1)
    refine WP.blk [(.aload_n 0, 1, (0, 0), .null), (.iconst 1, 1, (0, 0), .int 1)] (G := True) (c' := (97, [some (.ref 5), some (.ref 13), none, none, none], [.int 1, .ref 5], M)) (by decide +kernel) rfl trivial ?_
    refine WP.call (.invokevirtual 50, 3, (31, 2), .retAddr 4) (by decide +kernel) rfl (sp_Tape_fail (d := d + 4) h (fun M2 h => ?_))
    show WP (Ct (d + 5)) 37 Post (100, [some (.ref 5), some (.ref 13), none, none, none], [], M2)
    exact WP.ret (.return_, 1, (0, 0), .null) (rk := 0) (by decide +kernel) (by decide +kernel) rfl trivial (hΦ _ h)
set_option maxRecDepth 100000 in
set_option maxHeartbeats 4000000 in
theorem L_Tape_readCogs_39 {d : Nat} {Post : Option Value → Mm → Prop} {rec_2 : Int32 × Mm → Prop} {Φ : Mm → Prop} (hΦ : ∀ M1, Φ M1 → Post none M1) (hrec_2 : ∀ (x1 : Int32) (M : Mm), rec_2 (x1, M) → WP (Ct (d + 5)) 37 Post (2, [some (.ref 5), some (.ref 13), some (.int x1), none, none], [], M)) : ∀ (x1 : Int32) (x2 : Int32) (M : Mm), D_Tape_readCogs_39 Φ rec_2 (x1, x2, M) → WP (Ct (d + 5)) 37 Post (39, [some (.ref 5), some (.ref 13), some (.int x1), some (.int x2), none], [], M) := by
  intro x1 x2 M h
  replace h : S_Tape_numberBehind M 10 40 (fun r3 M3 => (((M3 5 3) = 0 → vp_in x1 6 ∧ (∀ M5, M5 = mu M3 15 (Int32.toNatClampNeg x1) x2 → vp_in x1 6 ∧ (∀ M6, M6 = mu M5 16 (Int32.toNatClampNeg x1) r3 → (∀ M7, M7 = mu M6 13 2 ((M6 13 2) + 1) → rec_2 ((x1 + 1), M7))))) ∧ (¬ ((M3 5 3) = 0) → Φ M3))) := h
  refine WP.blk [(.aload_n 0, 1, (0, 0), .null), (.bipush 10, 2, (0, 0), .int 10), (.bipush 40, 2, (0, 0), .int 40)] (G := True) (c' := (44, [some (.ref 5), some (.ref 13), some (.int x1), some (.int x2), none], [.int 40, .int 10, .ref 5], M)) (by decide +kernel) rfl trivial ?_
  refine WP.call (.invokevirtual 58, 3, (32, 3), .retAddr 4) (by decide +kernel) rfl (sp_Tape_numberBehind (d := d + 0) h (fun r3 M3 h => ?_))
  show WP (Ct (d + 5)) 37 Post (47, [some (.ref 5), some (.ref 13), some (.int x1), some (.int x2), none], [.int r3], M3)
  refine WP.blk [(.istore 4, 2, (0, 0), .null), (.aload_n 0, 1, (0, 0), .null), (.getfield 22, 3, (4, 3), .null)] (G := True) (c' := (53, [some (.ref 5), some (.ref 13), some (.int x1), some (.int x2), some (.int r3)], [.int (M3 5 3)], M3)) (by decide +kernel) rfl trivial ?_
  refine WP.br (.ifCond .eq 4, 3, (57, 0), .null) (by decide +kernel) rfl (fun c4 => ?_) (fun c4 => ?_)
  · replace h := h.1 c4
    refine WP.blk [(.aload_n 1, 1, (0, 0), .null), (.getfield 76, 3, (1, 10), .null), (.iload_n 2, 1, (0, 0), .null), (.iload_n 3, 1, (0, 0), .null), (.iastore, 1, (0, 0), .null)] (G := vp_in x1 6 ∧ True) (c' := (64, [some (.ref 5), some (.ref 13), some (.int x1), some (.int x2), some (.int r3)], [], (mu M3 15 (Int32.toNatClampNeg x1) x2))) (by decide +kernel) rfl ⟨h.1, trivial⟩ ?_
    replace h := h.2
    replace h := h (mu M3 15 (Int32.toNatClampNeg x1) x2) rfl
    generalize (mu M3 15 (Int32.toNatClampNeg x1) x2) = M5 at h ⊢
    refine WP.blk [(.aload_n 1, 1, (0, 0), .null), (.getfield 79, 3, (1, 11), .null), (.iload_n 2, 1, (0, 0), .null), (.iload 4, 2, (0, 0), .null), (.iastore, 1, (0, 0), .null)] (G := vp_in x1 6 ∧ True) (c' := (72, [some (.ref 5), some (.ref 13), some (.int x1), some (.int x2), some (.int r3)], [], (mu M5 16 (Int32.toNatClampNeg x1) r3))) (by decide +kernel) rfl ⟨h.1, trivial⟩ ?_
    replace h := h.2
    replace h := h (mu M5 16 (Int32.toNatClampNeg x1) r3) rfl
    generalize (mu M5 16 (Int32.toNatClampNeg x1) r3) = M6 at h ⊢
    refine WP.blk [(.aload_n 1, 1, (0, 0), .null), (.dup, 1, (0, 0), .null), (.getfield 82, 3, (1, 2), .null), (.iconst 1, 1, (0, 0), .int 1), (.iadd, 1, (0, 0), .null), (.putfield 82, 3, (1, 2), .null)] (G := True) (c' := (82, [some (.ref 5), some (.ref 13), some (.int x1), some (.int x2), some (.int r3)], [], (mu M6 13 2 ((M6 13 2) + 1)))) (by decide +kernel) rfl trivial ?_
    replace h := h (mu M6 13 2 ((M6 13 2) + 1)) rfl
    generalize (mu M6 13 2 ((M6 13 2) + 1)) = M7 at h ⊢
    refine WP.blk [(.iinc 2 1, 3, (0, 0), .int 1), (.goto (-83), 3, (2, 0), .null)] (G := True) (c' := (2, [some (.ref 5), some (.ref 13), some (.int (x1 + 1)), some (.int x2), some (.int r3)], [], M7)) (by decide +kernel) rfl trivial ?_
    refine WP.fgt [some (.ref 5), some (.ref 13), some (.int (x1 + 1)), none, none] (by simp [fgt]) ?_
    exact hrec_2 _ _ h
  · replace h := h.2 c4
    exact WP.ret (.return_, 1, (0, 0), .null) (rk := 0) (by decide +kernel) (by decide +kernel) rfl trivial (hΦ _ h)
set_option maxRecDepth 100000 in
set_option maxHeartbeats 4000000 in
theorem L_Tape_readCogs_2 {d : Nat} {Post : Option Value → Mm → Prop} {rec_2 : Int32 × Mm → Prop} {Φ : Mm → Prop} (hΦ : ∀ M1, Φ M1 → Post none M1) (hrec_2 : ∀ (x1 : Int32) (M : Mm), rec_2 (x1, M) → WP (Ct (d + 5)) 37 Post (2, [some (.ref 5), some (.ref 13), some (.int x1), none, none], [], M)) : ∀ (x1 : Int32) (M : Mm), D_Tape_readCogs_2 Φ rec_2 (x1, M) → WP (Ct (d + 5)) 37 Post (2, [some (.ref 5), some (.ref 13), some (.int x1), none, none], [], M) := by
  intro x1 M h
  replace h : ((6 < x1 → D_Tape_readCogs_88 Φ M) ∧ (¬ (6 < x1) → S_Tape_next M (fun r3 => S_Tape_sortOf M r3 (fun r4 => ((r4 = (-1000000) → D_Tape_readCogs_88 Φ M) ∧ (¬ (r4 = (-1000000)) → S_Tape_next M (fun r6 => S_Tape_sortOf M r6 (fun r7 => ((x1 = 6 → S_Tape_fail M 3 (fun M9 => D_Tape_readCogs_39 Φ rec_2 (x1, r7, M9))) ∧ (¬ (x1 = 6) → D_Tape_readCogs_39 Φ rec_2 (x1, r7, M))))))))))) := h
  refine WP.blk [(.iload_n 2, 1, (0, 0), .null), (.bipush 6, 2, (0, 0), .int 6)] (G := True) (c' := (5, [some (.ref 5), some (.ref 13), some (.int x1), none, none], [.int 6, .int x1], M)) (by decide +kernel) rfl trivial ?_
  refine WP.br (.if_icmp .gt 83, 3, (88, 0), .null) (by decide +kernel) rfl (fun c2 => ?_) (fun c2 => ?_)
  · replace h := h.1 c2
    refine WP.fgt [some (.ref 5), some (.ref 13), none, none, none] (by simp [fgt]) ?_
    exact L_Tape_readCogs_88 hΦ _ h
  · replace h := h.2 c2
    refine WP.blk [(.aload_n 0, 1, (0, 0), .null)] (G := True) (c' := (9, [some (.ref 5), some (.ref 13), some (.int x1), none, none], [.ref 5], M)) (by decide +kernel) rfl trivial ?_
    refine WP.call (.invokevirtual 46, 3, (29, 1), .retAddr 4) (by decide +kernel) rfl (sp_Tape_next (d := d + 3) h (fun r3 h => ?_))
    show WP (Ct (d + 5)) 37 Post (12, [some (.ref 5), some (.ref 13), some (.int x1), none, none], [.int r3], M)
    refine WP.call (.invokestatic 71, 3, (38, 1), .null) (by decide +kernel) rfl (sp_Tape_sortOf (d := d + 4) h (fun r4 h => ?_))
    show WP (Ct (d + 5)) 37 Post (15, [some (.ref 5), some (.ref 13), some (.int x1), none, none], [.int r4], M)
    refine WP.blk [(.ldc 75, 2, (0, 0), .int (-1000000))] (G := True) (c' := (17, [some (.ref 5), some (.ref 13), some (.int x1), none, none], [.int (-1000000), .int r4], M)) (by decide +kernel) rfl trivial ?_
    refine WP.br (.if_icmp .eq 71, 3, (88, 0), .null) (by decide +kernel) rfl (fun c5 => ?_) (fun c5 => ?_)
    · replace h := h.1 c5
      refine WP.fgt [some (.ref 5), some (.ref 13), none, none, none] (by simp [fgt]) ?_
      exact L_Tape_readCogs_88 hΦ _ h
    · replace h := h.2 c5
      refine WP.blk [(.aload_n 0, 1, (0, 0), .null)] (G := True) (c' := (21, [some (.ref 5), some (.ref 13), some (.int x1), none, none], [.ref 5], M)) (by decide +kernel) rfl trivial ?_
      refine WP.call (.invokevirtual 46, 3, (29, 1), .retAddr 4) (by decide +kernel) rfl (sp_Tape_next (d := d + 3) h (fun r6 h => ?_))
      show WP (Ct (d + 5)) 37 Post (24, [some (.ref 5), some (.ref 13), some (.int x1), none, none], [.int r6], M)
      refine WP.call (.invokestatic 71, 3, (38, 1), .null) (by decide +kernel) rfl (sp_Tape_sortOf (d := d + 4) h (fun r7 h => ?_))
      show WP (Ct (d + 5)) 37 Post (27, [some (.ref 5), some (.ref 13), some (.int x1), none, none], [.int r7], M)
      refine WP.blk [(.istore_n 3, 1, (0, 0), .null), (.iload_n 2, 1, (0, 0), .null), (.bipush 6, 2, (0, 0), .int 6)] (G := True) (c' := (31, [some (.ref 5), some (.ref 13), some (.int x1), some (.int r7), none], [.int 6, .int x1], M)) (by decide +kernel) rfl trivial ?_
      refine WP.br (.if_icmp .ne 8, 3, (39, 0), .null) (by decide +kernel) rfl (fun c8 => ?_) (fun c8 => ?_)
      · replace h := h.2 c8
        exact L_Tape_readCogs_39 hΦ hrec_2 _ _ _ h
      · replace h := h.1 (Classical.not_not.mp c8)
        refine WP.blk [(.aload_n 0, 1, (0, 0), .null), (.iconst 3, 1, (0, 0), .int 3)] (G := True) (c' := (36, [some (.ref 5), some (.ref 13), some (.int x1), some (.int r7), none], [.int 3, .ref 5], M)) (by decide +kernel) rfl trivial ?_
        refine WP.call (.invokevirtual 50, 3, (31, 2), .retAddr 4) (by decide +kernel) rfl (sp_Tape_fail (d := d + 4) h (fun M9 h => ?_))
        show WP (Ct (d + 5)) 37 Post (39, [some (.ref 5), some (.ref 13), some (.int x1), some (.int r7), none], [], M9)
        exact L_Tape_readCogs_39 hΦ hrec_2 _ _ _ h
theorem P_Tape_readCogs_2 {d : Nat} {Post : Option Value → Mm → Prop} {Φ : Mm → Prop} (hΦ : ∀ M1, Φ M1 → Post none M1) : ∀ (n : Nat) (x1 : Int32) (M : Mm), lp (D_Tape_readCogs_2 Φ) n (x1, M) → WP (Ct (d + 5)) 37 Post (2, [some (.ref 5), some (.ref 13), some (.int x1), none, none], [], M)
  | 0, x1, M, h => absurd h (by simp [lp])
  | n + 1, x1, M, h => L_Tape_readCogs_2 hΦ (P_Tape_readCogs_2 hΦ n) x1 M h
set_option maxRecDepth 100000 in
set_option maxHeartbeats 4000000 in
theorem sp_Tape_readCogs {d : Nat} {Post : Option Value → Mm → Prop} {M : Mm} {Φ : Mm → Prop} (h : S_Tape_readCogs M Φ) (hΦ : ∀ M1, Φ M1 → Post none M1) : Ct (d + 6) 37 [.ref 5, .ref 13] M Post := by
  refine Ct.go (n := 5) (E := [some (.ref 5), some (.ref 13), none, none, none]) (by decide +kernel) (by simp [Value.category]) rfl ?_
  refine WP.blk [(.iconst 0, 1, (0, 0), .int 0), (.istore_n 2, 1, (0, 0), .null)] (G := True) (c' := (2, [some (.ref 5), some (.ref 13), some (.int 0), none, none], [], M)) (by decide +kernel) rfl trivial ?_
  obtain ⟨n, h⟩ := h
  exact P_Tape_readCogs_2 hΦ n _ _ h
/-- GearRoad$Tape.readPieces(LGearRoad$Bike;)V -/
def D_Tape_readPieces_67 (Φ : Mm → Prop) : Mm → Prop
  | M => (((M 13 3) = 0 → S_Tape_fail M 1 (fun M2 => Φ M2)) ∧ (¬ ((M 13 3) = 0) → Φ M))
def D_Tape_readPieces_28 (Φ : Mm → Prop) (rec_2 : Int32 × Mm → Prop) : Int32 × Mm → Prop
  | (x1, M) => S_Tape_numberBehind M 0 9 (fun r2 M2 => (((M2 5 3) = 0 → vp_in x1 6 ∧ (∀ M4, M4 = mu M2 18 (Int32.toNatClampNeg x1) r2 → (∀ M5, M5 = mu M4 13 3 ((M4 13 3) + 1) → rec_2 ((x1 + 1), M5)))) ∧ (¬ ((M2 5 3) = 0) → Φ M2)))
def D_Tape_readPieces_2 (Φ : Mm → Prop) (rec_2 : Int32 × Mm → Prop) : Int32 × Mm → Prop
  | (x1, M) => ((6 < x1 → D_Tape_readPieces_67 Φ M) ∧ (¬ (6 < x1) → S_Tape_next M (fun r3 => ((r3 = 115 → ((x1 = 6 → S_Tape_fail M 3 (fun M6 => D_Tape_readPieces_28 Φ rec_2 (x1, M6))) ∧ (¬ (x1 = 6) → D_Tape_readPieces_28 Φ rec_2 (x1, M)))) ∧ (¬ (r3 = 115) → D_Tape_readPieces_67 Φ M)))))
def S_Tape_readPieces (M : Mm) (Φ : Mm → Prop) : Prop := ∃ n, lp (D_Tape_readPieces_2 Φ) n (0, M)
set_option maxRecDepth 100000 in
set_option maxHeartbeats 4000000 in
theorem L_Tape_readPieces_67 {d : Nat} {Post : Option Value → Mm → Prop} {Φ : Mm → Prop} (hΦ : ∀ M1, Φ M1 → Post none M1) : ∀ (M : Mm), D_Tape_readPieces_67 Φ M → WP (Ct (d + 5)) 39 Post (67, [some (.ref 5), some (.ref 13), none, none], [], M) := by
  intro M h
  replace h : (((M 13 3) = 0 → S_Tape_fail M 1 (fun M2 => Φ M2)) ∧ (¬ ((M 13 3) = 0) → Φ M)) := h
  refine WP.blk [(.aload_n 1, 1, (0, 0), .null), (.getfield 88, 3, (1, 3), .null)] (G := True) (c' := (71, [some (.ref 5), some (.ref 13), none, none], [.int (M 13 3)], M)) (by decide +kernel) rfl trivial ?_
  refine WP.br (.ifCond .ne 8, 3, (79, 0), .null) (by decide +kernel) rfl (fun c1 => ?_) (fun c1 => ?_)
  · replace h := h.2 c1
    exact WP.ret (.return_, 1, (0, 0), .null) (rk := 0) (by decide +kernel) (by decide +kernel) rfl trivial (hΦ _ h)
  · replace h := h.1 (Classical.not_not.mp c1)
    refine WP.blk [(.aload_n 0, 1, (0, 0), .null), (.iconst 1, 1, (0, 0), .int 1)] (G := True) (c' := (76, [some (.ref 5), some (.ref 13), none, none], [.int 1, .ref 5], M)) (by decide +kernel) rfl trivial ?_
    refine WP.call (.invokevirtual 50, 3, (31, 2), .retAddr 4) (by decide +kernel) rfl (sp_Tape_fail (d := d + 4) h (fun M2 h => ?_))
    show WP (Ct (d + 5)) 39 Post (79, [some (.ref 5), some (.ref 13), none, none], [], M2)
    exact WP.ret (.return_, 1, (0, 0), .null) (rk := 0) (by decide +kernel) (by decide +kernel) rfl trivial (hΦ _ h)
set_option maxRecDepth 100000 in
set_option maxHeartbeats 4000000 in
theorem L_Tape_readPieces_28 {d : Nat} {Post : Option Value → Mm → Prop} {rec_2 : Int32 × Mm → Prop} {Φ : Mm → Prop} (hΦ : ∀ M1, Φ M1 → Post none M1) (hrec_2 : ∀ (x1 : Int32) (M : Mm), rec_2 (x1, M) → WP (Ct (d + 5)) 39 Post (2, [some (.ref 5), some (.ref 13), some (.int x1), none], [], M)) : ∀ (x1 : Int32) (M : Mm), D_Tape_readPieces_28 Φ rec_2 (x1, M) → WP (Ct (d + 5)) 39 Post (28, [some (.ref 5), some (.ref 13), some (.int x1), none], [], M) := by
  intro x1 M h
  replace h : S_Tape_numberBehind M 0 9 (fun r2 M2 => (((M2 5 3) = 0 → vp_in x1 6 ∧ (∀ M4, M4 = mu M2 18 (Int32.toNatClampNeg x1) r2 → (∀ M5, M5 = mu M4 13 3 ((M4 13 3) + 1) → rec_2 ((x1 + 1), M5)))) ∧ (¬ ((M2 5 3) = 0) → Φ M2))) := h
  refine WP.blk [(.aload_n 0, 1, (0, 0), .null), (.iconst 0, 1, (0, 0), .int 0), (.bipush 9, 2, (0, 0), .int 9)] (G := True) (c' := (32, [some (.ref 5), some (.ref 13), some (.int x1), none], [.int 9, .int 0, .ref 5], M)) (by decide +kernel) rfl trivial ?_
  refine WP.call (.invokevirtual 58, 3, (32, 3), .retAddr 4) (by decide +kernel) rfl (sp_Tape_numberBehind (d := d + 0) h (fun r2 M2 h => ?_))
  show WP (Ct (d + 5)) 39 Post (35, [some (.ref 5), some (.ref 13), some (.int x1), none], [.int r2], M2)
  refine WP.blk [(.istore_n 3, 1, (0, 0), .null), (.aload_n 0, 1, (0, 0), .null), (.getfield 22, 3, (4, 3), .null)] (G := True) (c' := (40, [some (.ref 5), some (.ref 13), some (.int x1), some (.int r2)], [.int (M2 5 3)], M2)) (by decide +kernel) rfl trivial ?_
  refine WP.br (.ifCond .eq 4, 3, (44, 0), .null) (by decide +kernel) rfl (fun c3 => ?_) (fun c3 => ?_)
  · replace h := h.1 c3
    refine WP.blk [(.aload_n 1, 1, (0, 0), .null), (.getfield 85, 3, (1, 13), .null), (.iload_n 2, 1, (0, 0), .null), (.iload_n 3, 1, (0, 0), .null), (.iastore, 1, (0, 0), .null)] (G := vp_in x1 6 ∧ True) (c' := (51, [some (.ref 5), some (.ref 13), some (.int x1), some (.int r2)], [], (mu M2 18 (Int32.toNatClampNeg x1) r2))) (by decide +kernel) rfl ⟨h.1, trivial⟩ ?_
    replace h := h.2
    replace h := h (mu M2 18 (Int32.toNatClampNeg x1) r2) rfl
    generalize (mu M2 18 (Int32.toNatClampNeg x1) r2) = M4 at h ⊢
    refine WP.blk [(.aload_n 1, 1, (0, 0), .null), (.dup, 1, (0, 0), .null), (.getfield 88, 3, (1, 3), .null), (.iconst 1, 1, (0, 0), .int 1), (.iadd, 1, (0, 0), .null), (.putfield 88, 3, (1, 3), .null)] (G := True) (c' := (61, [some (.ref 5), some (.ref 13), some (.int x1), some (.int r2)], [], (mu M4 13 3 ((M4 13 3) + 1)))) (by decide +kernel) rfl trivial ?_
    replace h := h (mu M4 13 3 ((M4 13 3) + 1)) rfl
    generalize (mu M4 13 3 ((M4 13 3) + 1)) = M5 at h ⊢
    refine WP.blk [(.iinc 2 1, 3, (0, 0), .int 1), (.goto (-62), 3, (2, 0), .null)] (G := True) (c' := (2, [some (.ref 5), some (.ref 13), some (.int (x1 + 1)), some (.int r2)], [], M5)) (by decide +kernel) rfl trivial ?_
    refine WP.fgt [some (.ref 5), some (.ref 13), some (.int (x1 + 1)), none] (by simp [fgt]) ?_
    exact hrec_2 _ _ h
  · replace h := h.2 c3
    exact WP.ret (.return_, 1, (0, 0), .null) (rk := 0) (by decide +kernel) (by decide +kernel) rfl trivial (hΦ _ h)
set_option maxRecDepth 100000 in
set_option maxHeartbeats 4000000 in
theorem L_Tape_readPieces_2 {d : Nat} {Post : Option Value → Mm → Prop} {rec_2 : Int32 × Mm → Prop} {Φ : Mm → Prop} (hΦ : ∀ M1, Φ M1 → Post none M1) (hrec_2 : ∀ (x1 : Int32) (M : Mm), rec_2 (x1, M) → WP (Ct (d + 5)) 39 Post (2, [some (.ref 5), some (.ref 13), some (.int x1), none], [], M)) : ∀ (x1 : Int32) (M : Mm), D_Tape_readPieces_2 Φ rec_2 (x1, M) → WP (Ct (d + 5)) 39 Post (2, [some (.ref 5), some (.ref 13), some (.int x1), none], [], M) := by
  intro x1 M h
  replace h : ((6 < x1 → D_Tape_readPieces_67 Φ M) ∧ (¬ (6 < x1) → S_Tape_next M (fun r3 => ((r3 = 115 → ((x1 = 6 → S_Tape_fail M 3 (fun M6 => D_Tape_readPieces_28 Φ rec_2 (x1, M6))) ∧ (¬ (x1 = 6) → D_Tape_readPieces_28 Φ rec_2 (x1, M)))) ∧ (¬ (r3 = 115) → D_Tape_readPieces_67 Φ M))))) := h
  refine WP.blk [(.iload_n 2, 1, (0, 0), .null), (.bipush 6, 2, (0, 0), .int 6)] (G := True) (c' := (5, [some (.ref 5), some (.ref 13), some (.int x1), none], [.int 6, .int x1], M)) (by decide +kernel) rfl trivial ?_
  refine WP.br (.if_icmp .gt 62, 3, (67, 0), .null) (by decide +kernel) rfl (fun c2 => ?_) (fun c2 => ?_)
  · replace h := h.1 c2
    refine WP.fgt [some (.ref 5), some (.ref 13), none, none] (by simp [fgt]) ?_
    exact L_Tape_readPieces_67 hΦ _ h
  · replace h := h.2 c2
    refine WP.blk [(.aload_n 0, 1, (0, 0), .null)] (G := True) (c' := (9, [some (.ref 5), some (.ref 13), some (.int x1), none], [.ref 5], M)) (by decide +kernel) rfl trivial ?_
    refine WP.call (.invokevirtual 46, 3, (29, 1), .retAddr 4) (by decide +kernel) rfl (sp_Tape_next (d := d + 3) h (fun r3 h => ?_))
    show WP (Ct (d + 5)) 39 Post (12, [some (.ref 5), some (.ref 13), some (.int x1), none], [.int r3], M)
    refine WP.blk [(.bipush 115, 2, (0, 0), .int 115)] (G := True) (c' := (14, [some (.ref 5), some (.ref 13), some (.int x1), none], [.int 115, .int r3], M)) (by decide +kernel) rfl trivial ?_
    refine WP.br (.if_icmp .ne 53, 3, (67, 0), .null) (by decide +kernel) rfl (fun c4 => ?_) (fun c4 => ?_)
    · replace h := h.2 c4
      refine WP.fgt [some (.ref 5), some (.ref 13), none, none] (by simp [fgt]) ?_
      exact L_Tape_readPieces_67 hΦ _ h
    · replace h := h.1 (Classical.not_not.mp c4)
      refine WP.blk [(.iload_n 2, 1, (0, 0), .null), (.bipush 6, 2, (0, 0), .int 6)] (G := True) (c' := (20, [some (.ref 5), some (.ref 13), some (.int x1), none], [.int 6, .int x1], M)) (by decide +kernel) rfl trivial ?_
      refine WP.br (.if_icmp .ne 8, 3, (28, 0), .null) (by decide +kernel) rfl (fun c5 => ?_) (fun c5 => ?_)
      · replace h := h.2 c5
        exact L_Tape_readPieces_28 hΦ hrec_2 _ _ h
      · replace h := h.1 (Classical.not_not.mp c5)
        refine WP.blk [(.aload_n 0, 1, (0, 0), .null), (.iconst 3, 1, (0, 0), .int 3)] (G := True) (c' := (25, [some (.ref 5), some (.ref 13), some (.int x1), none], [.int 3, .ref 5], M)) (by decide +kernel) rfl trivial ?_
        refine WP.call (.invokevirtual 50, 3, (31, 2), .retAddr 4) (by decide +kernel) rfl (sp_Tape_fail (d := d + 4) h (fun M6 h => ?_))
        show WP (Ct (d + 5)) 39 Post (28, [some (.ref 5), some (.ref 13), some (.int x1), none], [], M6)
        exact L_Tape_readPieces_28 hΦ hrec_2 _ _ h
theorem P_Tape_readPieces_2 {d : Nat} {Post : Option Value → Mm → Prop} {Φ : Mm → Prop} (hΦ : ∀ M1, Φ M1 → Post none M1) : ∀ (n : Nat) (x1 : Int32) (M : Mm), lp (D_Tape_readPieces_2 Φ) n (x1, M) → WP (Ct (d + 5)) 39 Post (2, [some (.ref 5), some (.ref 13), some (.int x1), none], [], M)
  | 0, x1, M, h => absurd h (by simp [lp])
  | n + 1, x1, M, h => L_Tape_readPieces_2 hΦ (P_Tape_readPieces_2 hΦ n) x1 M h
set_option maxRecDepth 100000 in
set_option maxHeartbeats 4000000 in
theorem sp_Tape_readPieces {d : Nat} {Post : Option Value → Mm → Prop} {M : Mm} {Φ : Mm → Prop} (h : S_Tape_readPieces M Φ) (hΦ : ∀ M1, Φ M1 → Post none M1) : Ct (d + 6) 39 [.ref 5, .ref 13] M Post := by
  refine Ct.go (n := 4) (E := [some (.ref 5), some (.ref 13), none, none]) (by decide +kernel) (by simp [Value.category]) rfl ?_
  refine WP.blk [(.iconst 0, 1, (0, 0), .int 0), (.istore_n 2, 1, (0, 0), .null)] (G := True) (c' := (2, [some (.ref 5), some (.ref 13), some (.int 0), none], [], M)) (by decide +kernel) rfl trivial ?_
  obtain ⟨n, h⟩ := h
  exact P_Tape_readPieces_2 hΦ n _ _ h
/-- GearRoad$Tape.read(LGearRoad$Bike;)V -/
def D_Tape_read_52 (Φ : Mm → Prop) : Mm → Prop
  | M => (((M 5 3) = 0 → (∀ M3, M3 = mu M 13 0 1 → Φ M3)) ∧ (¬ ((M 5 3) = 0) → (∀ M2, M2 = mu M 13 0 0 → Φ M2)))
def S_Tape_read (M : Mm) (Φ : Mm → Prop) : Prop := (∀ M1, M1 = mu M 5 2 0 → (∀ M2, M2 = mu M1 5 3 0 → (∀ M3, M3 = mu M2 5 4 0 → S_Bike_clear M3 (fun M4 => S_Tape_readLaw M4 (fun M5 => S_Tape_readRings M5 (fun M6 => S_Tape_readCogs M6 (fun M7 => S_Tape_readPieces M7 (fun M8 => S_Tape_next M8 (fun r9 => ((r9 = (-1) → D_Tape_read_52 Φ M8) ∧ (¬ (r9 = (-1)) → S_Tape_fail M8 1 (fun M11 => D_Tape_read_52 Φ M11))))))))))))
set_option maxRecDepth 100000 in
set_option maxHeartbeats 4000000 in
theorem L_Tape_read_52 {d : Nat} {Post : Option Value → Mm → Prop} {Φ : Mm → Prop} (hΦ : ∀ M1, Φ M1 → Post none M1) : ∀ (M : Mm), D_Tape_read_52 Φ M → WP (Ct (d + 6)) 26 Post (52, [some (.ref 5), some (.ref 13)], [], M) := by
  intro M h
  replace h : (((M 5 3) = 0 → (∀ M3, M3 = mu M 13 0 1 → Φ M3)) ∧ (¬ ((M 5 3) = 0) → (∀ M2, M2 = mu M 13 0 0 → Φ M2))) := h
  refine WP.blk [(.aload_n 1, 1, (0, 0), .null), (.aload_n 0, 1, (0, 0), .null), (.getfield 22, 3, (4, 3), .null)] (G := True) (c' := (57, [some (.ref 5), some (.ref 13)], [.int (M 5 3), .ref 13], M)) (by decide +kernel) rfl trivial ?_
  refine WP.br (.ifCond .ne 7, 3, (64, 0), .null) (by decide +kernel) rfl (fun c1 => ?_) (fun c1 => ?_)
  · replace h := h.2 c1
    refine WP.blk [(.iconst 0, 1, (0, 0), .int 0), (.putfield 54, 3, (1, 0), .null)] (G := ((0 : Int32) = 0 ∨ (0 : Int32) = 1) ∧ True) (c' := (68, [some (.ref 5), some (.ref 13)], [], (mu M 13 0 0))) (by decide +kernel) rfl ⟨(by decide), trivial⟩ ?_
    replace h := h (mu M 13 0 0) rfl
    generalize (mu M 13 0 0) = M2 at h ⊢
    exact WP.ret (.return_, 1, (0, 0), .null) (rk := 0) (by decide +kernel) (by decide +kernel) rfl trivial (hΦ _ h)
  · replace h := h.1 (Classical.not_not.mp c1)
    refine WP.blk [(.iconst 1, 1, (0, 0), .int 1), (.goto 4, 3, (65, 0), .null), (.putfield 54, 3, (1, 0), .null)] (G := ((1 : Int32) = 0 ∨ (1 : Int32) = 1) ∧ True) (c' := (68, [some (.ref 5), some (.ref 13)], [], (mu M 13 0 1))) (by decide +kernel) rfl ⟨(by decide), trivial⟩ ?_
    replace h := h (mu M 13 0 1) rfl
    generalize (mu M 13 0 1) = M3 at h ⊢
    exact WP.ret (.return_, 1, (0, 0), .null) (rk := 0) (by decide +kernel) (by decide +kernel) rfl trivial (hΦ _ h)
set_option maxRecDepth 100000 in
set_option maxHeartbeats 4000000 in
theorem sp_Tape_read {d : Nat} {Post : Option Value → Mm → Prop} {M : Mm} {Φ : Mm → Prop} (h : S_Tape_read M Φ) (hΦ : ∀ M1, Φ M1 → Post none M1) : Ct (d + 7) 26 [.ref 5, .ref 13] M Post := by
  refine Ct.go (n := 2) (E := [some (.ref 5), some (.ref 13)]) (by decide +kernel) (by simp [Value.category]) rfl ?_
  refine WP.blk [(.aload_n 0, 1, (0, 0), .null), (.iconst 0, 1, (0, 0), .int 0), (.putfield 19, 3, (4, 2), .null)] (G := True) (c' := (5, [some (.ref 5), some (.ref 13)], [], (mu M 5 2 0))) (by decide +kernel) rfl trivial ?_
  replace h := h (mu M 5 2 0) rfl
  generalize (mu M 5 2 0) = M1 at h ⊢
  refine WP.blk [(.aload_n 0, 1, (0, 0), .null), (.iconst 0, 1, (0, 0), .int 0), (.putfield 22, 3, (4, 3), .null)] (G := True) (c' := (10, [some (.ref 5), some (.ref 13)], [], (mu M1 5 3 0))) (by decide +kernel) rfl trivial ?_
  replace h := h (mu M1 5 3 0) rfl
  generalize (mu M1 5 3 0) = M2 at h ⊢
  refine WP.blk [(.aload_n 0, 1, (0, 0), .null), (.iconst 0, 1, (0, 0), .int 0), (.putfield 25, 3, (4, 4), .null)] (G := True) (c' := (15, [some (.ref 5), some (.ref 13)], [], (mu M2 5 4 0))) (by decide +kernel) rfl trivial ?_
  replace h := h (mu M2 5 4 0) rfl
  generalize (mu M2 5 4 0) = M3 at h ⊢
  refine WP.blk [(.aload_n 1, 1, (0, 0), .null)] (G := True) (c' := (16, [some (.ref 5), some (.ref 13)], [.ref 13], M3)) (by decide +kernel) rfl trivial ?_
  refine WP.call (.invokevirtual 28, 3, (27, 1), .retAddr 1) (by decide +kernel) rfl (sp_Bike_clear (d := d + 5) h (fun M4 h => ?_))
  show WP (Ct (d + 6)) 26 Post (19, [some (.ref 5), some (.ref 13)], [], M4)
  refine WP.blk [(.aload_n 0, 1, (0, 0), .null), (.aload_n 1, 1, (0, 0), .null)] (G := True) (c' := (21, [some (.ref 5), some (.ref 13)], [.ref 13, .ref 5], M4)) (by decide +kernel) rfl trivial ?_
  refine WP.call (.invokevirtual 33, 3, (28, 2), .retAddr 4) (by decide +kernel) rfl (sp_Tape_readLaw (d := d + 0) h (fun M5 h => ?_))
  show WP (Ct (d + 6)) 26 Post (24, [some (.ref 5), some (.ref 13)], [], M5)
  refine WP.blk [(.aload_n 0, 1, (0, 0), .null), (.aload_n 1, 1, (0, 0), .null)] (G := True) (c' := (26, [some (.ref 5), some (.ref 13)], [.ref 13, .ref 5], M5)) (by decide +kernel) rfl trivial ?_
  refine WP.call (.invokevirtual 37, 3, (36, 2), .retAddr 4) (by decide +kernel) rfl (sp_Tape_readRings (d := d + 0) h (fun M6 h => ?_))
  show WP (Ct (d + 6)) 26 Post (29, [some (.ref 5), some (.ref 13)], [], M6)
  refine WP.blk [(.aload_n 0, 1, (0, 0), .null), (.aload_n 1, 1, (0, 0), .null)] (G := True) (c' := (31, [some (.ref 5), some (.ref 13)], [.ref 13, .ref 5], M6)) (by decide +kernel) rfl trivial ?_
  refine WP.call (.invokevirtual 40, 3, (37, 2), .retAddr 4) (by decide +kernel) rfl (sp_Tape_readCogs (d := d + 0) h (fun M7 h => ?_))
  show WP (Ct (d + 6)) 26 Post (34, [some (.ref 5), some (.ref 13)], [], M7)
  refine WP.blk [(.aload_n 0, 1, (0, 0), .null), (.aload_n 1, 1, (0, 0), .null)] (G := True) (c' := (36, [some (.ref 5), some (.ref 13)], [.ref 13, .ref 5], M7)) (by decide +kernel) rfl trivial ?_
  refine WP.call (.invokevirtual 43, 3, (39, 2), .retAddr 4) (by decide +kernel) rfl (sp_Tape_readPieces (d := d + 0) h (fun M8 h => ?_))
  show WP (Ct (d + 6)) 26 Post (39, [some (.ref 5), some (.ref 13)], [], M8)
  refine WP.blk [(.aload_n 0, 1, (0, 0), .null)] (G := True) (c' := (40, [some (.ref 5), some (.ref 13)], [.ref 5], M8)) (by decide +kernel) rfl trivial ?_
  refine WP.call (.invokevirtual 46, 3, (29, 1), .retAddr 4) (by decide +kernel) rfl (sp_Tape_next (d := d + 4) h (fun r9 h => ?_))
  show WP (Ct (d + 6)) 26 Post (43, [some (.ref 5), some (.ref 13)], [.int r9], M8)
  refine WP.blk [(.iconst (-1), 1, (0, 0), .int (-1))] (G := True) (c' := (44, [some (.ref 5), some (.ref 13)], [.int (-1), .int r9], M8)) (by decide +kernel) rfl trivial ?_
  refine WP.br (.if_icmp .eq 8, 3, (52, 0), .null) (by decide +kernel) rfl (fun c10 => ?_) (fun c10 => ?_)
  · replace h := h.1 c10
    exact L_Tape_read_52 hΦ _ h
  · replace h := h.2 c10
    refine WP.blk [(.aload_n 0, 1, (0, 0), .null), (.iconst 1, 1, (0, 0), .int 1)] (G := True) (c' := (49, [some (.ref 5), some (.ref 13)], [.int 1, .ref 5], M8)) (by decide +kernel) rfl trivial ?_
    refine WP.call (.invokevirtual 50, 3, (31, 2), .retAddr 4) (by decide +kernel) rfl (sp_Tape_fail (d := d + 5) h (fun M11 h => ?_))
    show WP (Ct (d + 6)) 26 Post (52, [some (.ref 5), some (.ref 13)], [], M11)
    exact L_Tape_read_52 hΦ _ h
/-- GearRoad$Trace.leave(I)V -/
def S_Trace_leave (M : Mm) (a1 : Int32) (Φ : Mm → Prop) : Prop := (((M 37 1) < 16 → vp_in (M 37 1) 16 ∧ (∀ M2, M2 = mu M 38 (Int32.toNatClampNeg (M 37 1)) a1 → (∀ M3, M3 = mu M2 37 1 ((M2 37 1) + 1) → Φ M3))) ∧ (¬ ((M 37 1) < 16) → Φ M))
set_option maxRecDepth 100000 in
set_option maxHeartbeats 4000000 in
theorem sp_Trace_leave {d : Nat} {Post : Option Value → Mm → Prop} {M : Mm} {a1 : Int32} {Φ : Mm → Prop} (h : S_Trace_leave M a1 Φ) (hΦ : ∀ M1, Φ M1 → Post none M1) : Ct (d + 1) 127 [.ref 37, .int a1] M Post := by
  refine Ct.go (n := 2) (E := [some (.ref 37), some (.int a1)]) (by decide +kernel) (by simp [Value.category]) rfl ?_
  refine WP.blk [(.aload_n 0, 1, (0, 0), .null), (.getfield 13, 3, (5, 1), .null), (.bipush 16, 2, (0, 0), .int 16)] (G := True) (c' := (6, [some (.ref 37), some (.int a1)], [.int 16, .int (M 37 1)], M)) (by decide +kernel) rfl trivial ?_
  refine WP.br (.if_icmp .lt 4, 3, (10, 0), .null) (by decide +kernel) rfl (fun c1 => ?_) (fun c1 => ?_)
  · replace h := h.1 c1
    refine WP.blk [(.aload_n 0, 1, (0, 0), .null), (.getfield 9, 3, (5, 0), .null), (.aload_n 0, 1, (0, 0), .null), (.getfield 13, 3, (5, 1), .null), (.iload_n 1, 1, (0, 0), .null), (.iastore, 1, (0, 0), .null)] (G := vp_in (M 37 1) 16 ∧ True) (c' := (20, [some (.ref 37), some (.int a1)], [], (mu M 38 (Int32.toNatClampNeg (M 37 1)) a1))) (by decide +kernel) rfl ⟨h.1, trivial⟩ ?_
    replace h := h.2
    replace h := h (mu M 38 (Int32.toNatClampNeg (M 37 1)) a1) rfl
    generalize (mu M 38 (Int32.toNatClampNeg (M 37 1)) a1) = M2 at h ⊢
    refine WP.blk [(.aload_n 0, 1, (0, 0), .null), (.dup, 1, (0, 0), .null), (.getfield 13, 3, (5, 1), .null), (.iconst 1, 1, (0, 0), .int 1), (.iadd, 1, (0, 0), .null), (.putfield 13, 3, (5, 1), .null)] (G := True) (c' := (30, [some (.ref 37), some (.int a1)], [], (mu M2 37 1 ((M2 37 1) + 1)))) (by decide +kernel) rfl trivial ?_
    replace h := h (mu M2 37 1 ((M2 37 1) + 1)) rfl
    generalize (mu M2 37 1 ((M2 37 1) + 1)) = M3 at h ⊢
    exact WP.ret (.return_, 1, (0, 0), .null) (rk := 0) (by decide +kernel) (by decide +kernel) rfl trivial (hΦ _ h)
  · replace h := h.2 c1
    exact WP.ret (.return_, 1, (0, 0), .null) (rk := 0) (by decide +kernel) (by decide +kernel) rfl trivial (hΦ _ h)
