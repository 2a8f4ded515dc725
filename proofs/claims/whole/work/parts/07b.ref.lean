/-- GearRoadModel.costBy(IIII)I -/
def S_R_costBy (M : Mm) (a1 : Int32) (a2 : Int32) (a3 : Int32) (a4 : Int32) (Φ : Int32 → Prop) : Prop := S_R_costOf M a2 a3 a1 (fun r1 => ((r1 = (-1000000) → Φ 1000000000) ∧ (¬ (r1 = (-1000000)) → vp_in (23 + a1) 35 ∧ S_R_loadOf 44 M a3 (M 44 (Int32.toNatClampNeg (23 + a1))) (fun r3 => ((a4 < r3 → Φ 1000000000) ∧ (¬ (a4 < r3) → vp_in ((18 * (a1 + 1)) + a3) 126 ∧ (((M 50 (Int32.toNatClampNeg ((18 * (a1 + 1)) + a3))) < 1000000000 → S_R_turnsOf 44 M a3 (fun r6 => vp_in ((18 * (a1 + 1)) + a3) 126 ∧ Φ ((r1 + r6) + (M 50 (Int32.toNatClampNeg ((18 * (a1 + 1)) + a3)))))) ∧ (¬ ((M 50 (Int32.toNatClampNeg ((18 * (a1 + 1)) + a3))) < 1000000000) → Φ 1000000000))))))))
set_option maxRecDepth 100000 in
set_option maxHeartbeats 4000000 in
theorem sp_R_costBy {d : Nat} {Post : Option Value → Mm → Prop} {M : Mm} {a1 : Int32} {a2 : Int32} {a3 : Int32} {a4 : Int32} {Φ : Int32 → Prop} (h : S_R_costBy M a1 a2 a3 a4 Φ) (hΦ : ∀ r, Φ r → Post (some (.int r)) M) : Ct (d + 3) 185 [.ref 39, .int a1, .int a2, .int a3, .int a4] M Post := by
  refine Ct.go (n := 6) (E := [some (.ref 39), some (.int a1), some (.int a2), some (.int a3), some (.int a4), none]) (by decide +kernel) (by simp [Value.category]) rfl ?_
  refine WP.blk [(.aload_n 0, 1, (0, 0), .null), (.iload_n 2, 1, (0, 0), .null), (.iload_n 3, 1, (0, 0), .null), (.iload_n 1, 1, (0, 0), .null)] (G := True) (c' := (4, [some (.ref 39), some (.int a1), some (.int a2), some (.int a3), some (.int a4), none], [.int a1, .int a3, .int a2, .ref 39], M)) (by decide +kernel) rfl trivial ?_
  refine WP.call (.invokevirtual 186, 3, (182, 4), .retAddr 7) (by decide +kernel) rfl (sp_R_costOf (d := d + 0) h (fun r1 h => ?_))
  show WP (Ct (d + 2)) 185 Post (7, [some (.ref 39), some (.int a1), some (.int a2), some (.int a3), some (.int a4), none], [.int r1], M)
  refine WP.blk [(.istore 5, 2, (0, 0), .null), (.iload 5, 2, (0, 0), .null), (.ldc 185, 2, (0, 0), .int (-1000000))] (G := True) (c' := (13, [some (.ref 39), some (.int a1), some (.int a2), some (.int a3), some (.int a4), some (.int r1)], [.int (-1000000), .int r1], M)) (by decide +kernel) rfl trivial ?_
  refine WP.br (.if_icmp .eq 43, 3, (56, 0), .null) (by decide +kernel) rfl (fun c2 => ?_) (fun c2 => ?_)
  · replace h := h.1 c2
    refine WP.blk [(.ldc 190, 2, (0, 0), .int (1000000000))] (G := True) (c' := (58, [some (.ref 39), some (.int a1), some (.int a2), some (.int a3), some (.int a4), some (.int r1)], [.int 1000000000], M)) (by decide +kernel) rfl trivial ?_
    exact WP.ret (.ireturn, 1, (0, 0), .null) (rk := 1) (by decide +kernel) (by decide +kernel) rfl trivial (hΦ _ h)
  · replace h := h.2 c2
    refine WP.blk [(.aload_n 0, 1, (0, 0), .null), (.getfield 22, 3, (7, 6), .null), (.iload_n 3, 1, (0, 0), .null), (.aload_n 0, 1, (0, 0), .null), (.getfield 22, 3, (7, 6), .null), (.bipush 23, 2, (0, 0), .int 23), (.iload_n 1, 1, (0, 0), .null), (.iadd, 1, (0, 0), .null), (.iaload, 1, (0, 0), .null)] (G := vp_in (23 + a1) 35 ∧ True) (c' := (30, [some (.ref 39), some (.int a1), some (.int a2), some (.int a3), some (.int a4), some (.int r1)], [.int (M 44 (Int32.toNatClampNeg (23 + a1))), .int a3, .ref 44], M)) (by decide +kernel) rfl ⟨h.1, trivial⟩ ?_
    replace h := h.2
    refine WP.call (.invokestatic 79, 3, (159, 3), .null) (by decide +kernel) rfl (sp_R_loadOf (d := d + 1) (by decide) h (fun r3 h => ?_))
    show WP (Ct (d + 2)) 185 Post (33, [some (.ref 39), some (.int a1), some (.int a2), some (.int a3), some (.int a4), some (.int r1)], [.int r3], M)
    refine WP.blk [(.iload 4, 2, (0, 0), .null)] (G := True) (c' := (35, [some (.ref 39), some (.int a1), some (.int a2), some (.int a3), some (.int a4), some (.int r1)], [.int a4, .int r3], M)) (by decide +kernel) rfl trivial ?_
    refine WP.br (.if_icmp .gt 21, 3, (56, 0), .null) (by decide +kernel) rfl (fun c4 => ?_) (fun c4 => ?_)
    · replace h := h.1 c4
      refine WP.blk [(.ldc 190, 2, (0, 0), .int (1000000000))] (G := True) (c' := (58, [some (.ref 39), some (.int a1), some (.int a2), some (.int a3), some (.int a4), some (.int r1)], [.int 1000000000], M)) (by decide +kernel) rfl trivial ?_
      exact WP.ret (.ireturn, 1, (0, 0), .null) (rk := 1) (by decide +kernel) (by decide +kernel) rfl trivial (hΦ _ h)
    · replace h := h.2 c4
      refine WP.blk [(.aload_n 0, 1, (0, 0), .null), (.getfield 42, 3, (7, 20), .null), (.bipush 18, 2, (0, 0), .int 18), (.iload_n 1, 1, (0, 0), .null), (.iconst 1, 1, (0, 0), .int 1), (.iadd, 1, (0, 0), .null), (.imul, 1, (0, 0), .null), (.iload_n 3, 1, (0, 0), .null), (.iadd, 1, (0, 0), .null), (.iaload, 1, (0, 0), .null), (.ldc 190, 2, (0, 0), .int (1000000000))] (G := vp_in ((18 * (a1 + 1)) + a3) 126 ∧ True) (c' := (53, [some (.ref 39), some (.int a1), some (.int a2), some (.int a3), some (.int a4), some (.int r1)], [.int 1000000000, .int (M 50 (Int32.toNatClampNeg ((18 * (a1 + 1)) + a3)))], M)) (by decide +kernel) rfl ⟨h.1, trivial⟩ ?_
      replace h := h.2
      refine WP.br (.if_icmp .lt 6, 3, (59, 0), .null) (by decide +kernel) rfl (fun c5 => ?_) (fun c5 => ?_)
      · replace h := h.1 c5
        refine WP.blk [(.iload 5, 2, (0, 0), .null), (.aload_n 0, 1, (0, 0), .null), (.getfield 22, 3, (7, 6), .null), (.iload_n 3, 1, (0, 0), .null)] (G := True) (c' := (66, [some (.ref 39), some (.int a1), some (.int a2), some (.int a3), some (.int a4), some (.int r1)], [.int a3, .ref 44, .int r1], M)) (by decide +kernel) rfl trivial ?_
        refine WP.call (.invokestatic 158, 3, (161, 2), .null) (by decide +kernel) rfl (sp_R_turnsOf (d := d + 1) (by decide) h (fun r6 h => ?_))
        show WP (Ct (d + 2)) 185 Post (69, [some (.ref 39), some (.int a1), some (.int a2), some (.int a3), some (.int a4), some (.int r1)], [.int r6, .int r1], M)
        refine WP.blk [(.iadd, 1, (0, 0), .null), (.aload_n 0, 1, (0, 0), .null), (.getfield 42, 3, (7, 20), .null), (.bipush 18, 2, (0, 0), .int 18), (.iload_n 1, 1, (0, 0), .null), (.iconst 1, 1, (0, 0), .int 1), (.iadd, 1, (0, 0), .null), (.imul, 1, (0, 0), .null), (.iload_n 3, 1, (0, 0), .null), (.iadd, 1, (0, 0), .null), (.iaload, 1, (0, 0), .null), (.iadd, 1, (0, 0), .null)] (G := vp_in ((18 * (a1 + 1)) + a3) 126 ∧ True) (c' := (84, [some (.ref 39), some (.int a1), some (.int a2), some (.int a3), some (.int a4), some (.int r1)], [.int ((r1 + r6) + (M 50 (Int32.toNatClampNeg ((18 * (a1 + 1)) + a3))))], M)) (by decide +kernel) rfl ⟨h.1, trivial⟩ ?_
        replace h := h.2
        exact WP.ret (.ireturn, 1, (0, 0), .null) (rk := 1) (by decide +kernel) (by decide +kernel) rfl trivial (hΦ _ h)
      · replace h := h.2 c5
        refine WP.blk [(.ldc 190, 2, (0, 0), .int (1000000000))] (G := True) (c' := (58, [some (.ref 39), some (.int a1), some (.int a2), some (.int a3), some (.int a4), some (.int r1)], [.int 1000000000], M)) (by decide +kernel) rfl trivial ?_
        exact WP.ret (.ireturn, 1, (0, 0), .null) (rk := 1) (by decide +kernel) (by decide +kernel) rfl trivial (hΦ _ h)
/-- GearRoadModel.tellRest(I)V -/
def D_R_tellRest_128 (Φ : Mm → Prop) (rec_40 : Int32 × Int32 × Mm → Prop) (rec_53 : Int32 × Int32 × Int32 × Mm → Prop) : Int32 × Int32 × Int32 × Int32 × Mm → Prop
  | (x1, x2, x3, x4, M) => vp_in ((18 * x2) + x3) 126 ∧ (∀ M5, M5 = mu M 50 (Int32.toNatClampNeg ((18 * x2) + x3)) x4 → rec_53 (x1, x2, (x3 + 1), M5))
def D_R_tellRest_120 (Φ : Mm → Prop) (rec_40 : Int32 × Int32 × Mm → Prop) (rec_53 : Int32 × Int32 × Int32 × Mm → Prop) (rec_66 : Int32 × Int32 × Int32 × Int32 × Int32 × Mm → Prop) : Int32 × Int32 × Int32 × Int32 × Int32 × Mm → Prop
  | (x1, x2, x3, x4, x5, M) => rec_66 (x1, x2, x3, x5, (x4 + 1), M)
def D_R_tellRest_104 (Φ : Mm → Prop) (rec_40 : Int32 × Int32 × Mm → Prop) (rec_53 : Int32 × Int32 × Int32 × Mm → Prop) (rec_66 : Int32 × Int32 × Int32 × Int32 × Int32 × Mm → Prop) : Int32 × Int32 × Int32 × Int32 × Int32 × Int32 × Mm → Prop
  | (x1, x2, x3, x4, x5, x6, M) => ((x4 ≤ x6 → D_R_tellRest_120 Φ rec_40 rec_53 rec_66 (x1, x2, x3, x5, x4, M)) ∧ (¬ (x4 ≤ x6) → D_R_tellRest_120 Φ rec_40 rec_53 rec_66 (x1, x2, x3, x5, x6, M)))
def D_R_tellRest_66 (Φ : Mm → Prop) (rec_40 : Int32 × Int32 × Mm → Prop) (rec_53 : Int32 × Int32 × Int32 × Mm → Prop) (rec_66 : Int32 × Int32 × Int32 × Int32 × Int32 × Mm → Prop) : Int32 × Int32 × Int32 × Int32 × Int32 × Mm → Prop
  | (x1, x2, x3, x4, x5, M) => ((18 ≤ x5 → D_R_tellRest_128 Φ rec_40 rec_53 (x1, x2, x3, x4, M)) ∧ (¬ (18 ≤ x5) → S_R_isGear M x3 (fun r7 => ((r7 = 0 → D_R_tellRest_128 Φ rec_40 rec_53 (x1, x2, x3, x4, M)) ∧ (¬ (r7 = 0) → S_R_isGear M x5 (fun r9 => ((r9 = 0 → D_R_tellRest_104 Φ rec_40 rec_53 rec_66 (x1, x2, x3, x4, x5, 1000000000, M)) ∧ (¬ (r9 = 0) → S_R_costBy M x2 x3 x5 x1 (fun r11 => D_R_tellRest_104 Φ rec_40 rec_53 rec_66 (x1, x2, x3, x4, x5, r11, M))))))))))
def D_R_tellRest_53 (Φ : Mm → Prop) (rec_40 : Int32 × Int32 × Mm → Prop) (rec_53 : Int32 × Int32 × Int32 × Mm → Prop) : Int32 × Int32 × Int32 × Mm → Prop
  | (x1, x2, x3, M) => ((18 ≤ x3 → rec_40 (x1, (x2 + (-1)), M)) ∧ (¬ (18 ≤ x3) → ∃ n, lp (D_R_tellRest_66 Φ rec_40 rec_53) n (x1, x2, x3, 1000000000, 0, M)))
def D_R_tellRest_40 (Φ : Mm → Prop) (rec_40 : Int32 × Int32 × Mm → Prop) : Int32 × Int32 × Mm → Prop
  | (x1, x2, M) => ((x2 < (M 44 (Int32.toNatClampNeg 6)) → Φ M) ∧ (¬ (x2 < (M 44 (Int32.toNatClampNeg 6))) → ∃ n, lp (D_R_tellRest_53 Φ rec_40) n (x1, x2, 0, M)))
def D_R_tellRest_2 (Φ : Mm → Prop) (rec_2 : Int32 × Int32 × Mm → Prop) : Int32 × Int32 × Mm → Prop
  | (x1, x2, M) => ((18 ≤ x2 → ∃ n, lp (D_R_tellRest_40 Φ) n (x1, ((M 44 (Int32.toNatClampNeg 3)) - 1), M)) ∧ (¬ (18 ≤ x2) → vp_in ((18 * (M 44 (Int32.toNatClampNeg 3))) + x2) 126 ∧ (∀ M4, M4 = mu M 50 (Int32.toNatClampNeg ((18 * (M 44 (Int32.toNatClampNeg 3))) + x2)) 0 → rec_2 (x1, (x2 + 1), M4))))
def S_R_tellRest (M : Mm) (a1 : Int32) (Φ : Mm → Prop) : Prop := ∃ n, lp (D_R_tellRest_2 Φ) n (a1, 0, M)
set_option maxRecDepth 100000 in
set_option maxHeartbeats 4000000 in
theorem L_R_tellRest_128 {d : Nat} {Post : Option Value → Mm → Prop} {rec_40 : Int32 × Int32 × Mm → Prop} {rec_53 : Int32 × Int32 × Int32 × Mm → Prop} {Φ : Mm → Prop} (hΦ : ∀ M1, Φ M1 → Post none M1) (hrec_40 : ∀ (x1 : Int32) (x2 : Int32) (M : Mm), rec_40 (x1, x2, M) → WP (Ct (d + 3)) 184 Post (40, [some (.ref 39), some (.int x1), some (.int x2), none, none, none, none], [], M)) (hrec_53 : ∀ (x1 : Int32) (x2 : Int32) (x3 : Int32) (M : Mm), rec_53 (x1, x2, x3, M) → WP (Ct (d + 3)) 184 Post (53, [some (.ref 39), some (.int x1), some (.int x2), some (.int x3), none, none, none], [], M)) : ∀ (x1 : Int32) (x2 : Int32) (x3 : Int32) (x4 : Int32) (M : Mm), D_R_tellRest_128 Φ rec_40 rec_53 (x1, x2, x3, x4, M) → WP (Ct (d + 3)) 184 Post (128, [some (.ref 39), some (.int x1), some (.int x2), some (.int x3), some (.int x4), none, none], [], M) := by
  intro x1 x2 x3 x4 M h
  replace h : vp_in ((18 * x2) + x3) 126 ∧ (∀ M5, M5 = mu M 50 (Int32.toNatClampNeg ((18 * x2) + x3)) x4 → rec_53 (x1, x2, (x3 + 1), M5)) := h
  refine WP.blk [(.aload_n 0, 1, (0, 0), .null), (.getfield 42, 3, (7, 20), .null), (.bipush 18, 2, (0, 0), .int 18), (.iload_n 2, 1, (0, 0), .null), (.imul, 1, (0, 0), .null), (.iload_n 3, 1, (0, 0), .null), (.iadd, 1, (0, 0), .null), (.iload 4, 2, (0, 0), .null), (.iastore, 1, (0, 0), .null)] (G := vp_in ((18 * x2) + x3) 126 ∧ True) (c' := (141, [some (.ref 39), some (.int x1), some (.int x2), some (.int x3), some (.int x4), none, none], [], (mu M 50 (Int32.toNatClampNeg ((18 * x2) + x3)) x4))) (by decide +kernel) rfl ⟨h.1, trivial⟩ ?_
  replace h := h.2
  replace h := h (mu M 50 (Int32.toNatClampNeg ((18 * x2) + x3)) x4) rfl
  generalize (mu M 50 (Int32.toNatClampNeg ((18 * x2) + x3)) x4) = M5 at h ⊢
  refine WP.blk [(.iinc 3 1, 3, (0, 0), .int 1), (.goto (-91), 3, (53, 0), .null)] (G := True) (c' := (53, [some (.ref 39), some (.int x1), some (.int x2), some (.int (x3 + 1)), some (.int x4), none, none], [], M5)) (by decide +kernel) rfl trivial ?_
  refine WP.fgt [some (.ref 39), some (.int x1), some (.int x2), some (.int (x3 + 1)), none, none, none] (by simp [fgt]) ?_
  exact hrec_53 _ _ _ _ h
set_option maxRecDepth 100000 in
set_option maxHeartbeats 4000000 in
theorem L_R_tellRest_120 {d : Nat} {Post : Option Value → Mm → Prop} {rec_40 : Int32 × Int32 × Mm → Prop} {rec_53 : Int32 × Int32 × Int32 × Mm → Prop} {rec_66 : Int32 × Int32 × Int32 × Int32 × Int32 × Mm → Prop} {Φ : Mm → Prop} (hΦ : ∀ M1, Φ M1 → Post none M1) (hrec_40 : ∀ (x1 : Int32) (x2 : Int32) (M : Mm), rec_40 (x1, x2, M) → WP (Ct (d + 3)) 184 Post (40, [some (.ref 39), some (.int x1), some (.int x2), none, none, none, none], [], M)) (hrec_53 : ∀ (x1 : Int32) (x2 : Int32) (x3 : Int32) (M : Mm), rec_53 (x1, x2, x3, M) → WP (Ct (d + 3)) 184 Post (53, [some (.ref 39), some (.int x1), some (.int x2), some (.int x3), none, none, none], [], M)) (hrec_66 : ∀ (x1 : Int32) (x2 : Int32) (x3 : Int32) (x4 : Int32) (x5 : Int32) (M : Mm), rec_66 (x1, x2, x3, x4, x5, M) → WP (Ct (d + 3)) 184 Post (66, [some (.ref 39), some (.int x1), some (.int x2), some (.int x3), some (.int x4), some (.int x5), none], [], M)) : ∀ (x1 : Int32) (x2 : Int32) (x3 : Int32) (x4 : Int32) (x5 : Int32) (M : Mm), D_R_tellRest_120 Φ rec_40 rec_53 rec_66 (x1, x2, x3, x4, x5, M) → WP (Ct (d + 3)) 184 Post (120, [some (.ref 39), some (.int x1), some (.int x2), some (.int x3), none, some (.int x4), none], [.int x5], M) := by
  intro x1 x2 x3 x4 x5 M h
  replace h : rec_66 (x1, x2, x3, x5, (x4 + 1), M) := h
  refine WP.blk [(.istore 4, 2, (0, 0), .null), (.iinc 5 1, 3, (0, 0), .int 1), (.goto (-59), 3, (66, 0), .null)] (G := True) (c' := (66, [some (.ref 39), some (.int x1), some (.int x2), some (.int x3), some (.int x5), some (.int (x4 + 1)), none], [], M)) (by decide +kernel) rfl trivial ?_
  exact hrec_66 _ _ _ _ _ _ h
set_option maxRecDepth 100000 in
set_option maxHeartbeats 4000000 in
theorem L_R_tellRest_104 {d : Nat} {Post : Option Value → Mm → Prop} {rec_40 : Int32 × Int32 × Mm → Prop} {rec_53 : Int32 × Int32 × Int32 × Mm → Prop} {rec_66 : Int32 × Int32 × Int32 × Int32 × Int32 × Mm → Prop} {Φ : Mm → Prop} (hΦ : ∀ M1, Φ M1 → Post none M1) (hrec_40 : ∀ (x1 : Int32) (x2 : Int32) (M : Mm), rec_40 (x1, x2, M) → WP (Ct (d + 3)) 184 Post (40, [some (.ref 39), some (.int x1), some (.int x2), none, none, none, none], [], M)) (hrec_53 : ∀ (x1 : Int32) (x2 : Int32) (x3 : Int32) (M : Mm), rec_53 (x1, x2, x3, M) → WP (Ct (d + 3)) 184 Post (53, [some (.ref 39), some (.int x1), some (.int x2), some (.int x3), none, none, none], [], M)) (hrec_66 : ∀ (x1 : Int32) (x2 : Int32) (x3 : Int32) (x4 : Int32) (x5 : Int32) (M : Mm), rec_66 (x1, x2, x3, x4, x5, M) → WP (Ct (d + 3)) 184 Post (66, [some (.ref 39), some (.int x1), some (.int x2), some (.int x3), some (.int x4), some (.int x5), none], [], M)) : ∀ (x1 : Int32) (x2 : Int32) (x3 : Int32) (x4 : Int32) (x5 : Int32) (x6 : Int32) (M : Mm), D_R_tellRest_104 Φ rec_40 rec_53 rec_66 (x1, x2, x3, x4, x5, x6, M) → WP (Ct (d + 3)) 184 Post (104, [some (.ref 39), some (.int x1), some (.int x2), some (.int x3), some (.int x4), some (.int x5), none], [.int x6], M) := by
  intro x1 x2 x3 x4 x5 x6 M h
  replace h : ((x4 ≤ x6 → D_R_tellRest_120 Φ rec_40 rec_53 rec_66 (x1, x2, x3, x5, x4, M)) ∧ (¬ (x4 ≤ x6) → D_R_tellRest_120 Φ rec_40 rec_53 rec_66 (x1, x2, x3, x5, x6, M))) := h
  refine WP.blk [(.istore 6, 2, (0, 0), .null), (.iload 6, 2, (0, 0), .null), (.iload 4, 2, (0, 0), .null)] (G := True) (c' := (110, [some (.ref 39), some (.int x1), some (.int x2), some (.int x3), some (.int x4), some (.int x5), some (.int x6)], [.int x4, .int x6], M)) (by decide +kernel) rfl trivial ?_
  refine WP.br (.if_icmp .ge 8, 3, (118, 0), .null) (by decide +kernel) rfl (fun c7 => ?_) (fun c7 => ?_)
  · replace h := h.1 c7
    refine WP.blk [(.iload 4, 2, (0, 0), .null)] (G := True) (c' := (120, [some (.ref 39), some (.int x1), some (.int x2), some (.int x3), some (.int x4), some (.int x5), some (.int x6)], [.int x4], M)) (by decide +kernel) rfl trivial ?_
    refine WP.fgt [some (.ref 39), some (.int x1), some (.int x2), some (.int x3), none, some (.int x5), none] (by simp [fgt]) ?_
    exact L_R_tellRest_120 hΦ hrec_40 hrec_53 hrec_66 _ _ _ _ _ _ h
  · replace h := h.2 c7
    refine WP.blk [(.iload 6, 2, (0, 0), .null), (.goto 5, 3, (120, 0), .null)] (G := True) (c' := (120, [some (.ref 39), some (.int x1), some (.int x2), some (.int x3), some (.int x4), some (.int x5), some (.int x6)], [.int x6], M)) (by decide +kernel) rfl trivial ?_
    refine WP.fgt [some (.ref 39), some (.int x1), some (.int x2), some (.int x3), none, some (.int x5), none] (by simp [fgt]) ?_
    exact L_R_tellRest_120 hΦ hrec_40 hrec_53 hrec_66 _ _ _ _ _ _ h
set_option maxRecDepth 100000 in
set_option maxHeartbeats 4000000 in
theorem L_R_tellRest_66 {d : Nat} {Post : Option Value → Mm → Prop} {rec_40 : Int32 × Int32 × Mm → Prop} {rec_53 : Int32 × Int32 × Int32 × Mm → Prop} {rec_66 : Int32 × Int32 × Int32 × Int32 × Int32 × Mm → Prop} {Φ : Mm → Prop} (hΦ : ∀ M1, Φ M1 → Post none M1) (hrec_40 : ∀ (x1 : Int32) (x2 : Int32) (M : Mm), rec_40 (x1, x2, M) → WP (Ct (d + 3)) 184 Post (40, [some (.ref 39), some (.int x1), some (.int x2), none, none, none, none], [], M)) (hrec_53 : ∀ (x1 : Int32) (x2 : Int32) (x3 : Int32) (M : Mm), rec_53 (x1, x2, x3, M) → WP (Ct (d + 3)) 184 Post (53, [some (.ref 39), some (.int x1), some (.int x2), some (.int x3), none, none, none], [], M)) (hrec_66 : ∀ (x1 : Int32) (x2 : Int32) (x3 : Int32) (x4 : Int32) (x5 : Int32) (M : Mm), rec_66 (x1, x2, x3, x4, x5, M) → WP (Ct (d + 3)) 184 Post (66, [some (.ref 39), some (.int x1), some (.int x2), some (.int x3), some (.int x4), some (.int x5), none], [], M)) : ∀ (x1 : Int32) (x2 : Int32) (x3 : Int32) (x4 : Int32) (x5 : Int32) (M : Mm), D_R_tellRest_66 Φ rec_40 rec_53 rec_66 (x1, x2, x3, x4, x5, M) → WP (Ct (d + 3)) 184 Post (66, [some (.ref 39), some (.int x1), some (.int x2), some (.int x3), some (.int x4), some (.int x5), none], [], M) := by
  intro x1 x2 x3 x4 x5 M h
  replace h : ((18 ≤ x5 → D_R_tellRest_128 Φ rec_40 rec_53 (x1, x2, x3, x4, M)) ∧ (¬ (18 ≤ x5) → S_R_isGear M x3 (fun r7 => ((r7 = 0 → D_R_tellRest_128 Φ rec_40 rec_53 (x1, x2, x3, x4, M)) ∧ (¬ (r7 = 0) → S_R_isGear M x5 (fun r9 => ((r9 = 0 → D_R_tellRest_104 Φ rec_40 rec_53 rec_66 (x1, x2, x3, x4, x5, 1000000000, M)) ∧ (¬ (r9 = 0) → S_R_costBy M x2 x3 x5 x1 (fun r11 => D_R_tellRest_104 Φ rec_40 rec_53 rec_66 (x1, x2, x3, x4, x5, r11, M)))))))))) := h
  refine WP.blk [(.iload 5, 2, (0, 0), .null), (.bipush 18, 2, (0, 0), .int 18)] (G := True) (c' := (70, [some (.ref 39), some (.int x1), some (.int x2), some (.int x3), some (.int x4), some (.int x5), none], [.int 18, .int x5], M)) (by decide +kernel) rfl trivial ?_
  refine WP.br (.if_icmp .ge 58, 3, (128, 0), .null) (by decide +kernel) rfl (fun c6 => ?_) (fun c6 => ?_)
  · replace h := h.1 c6
    refine WP.fgt [some (.ref 39), some (.int x1), some (.int x2), some (.int x3), some (.int x4), none, none] (by simp [fgt]) ?_
    exact L_R_tellRest_128 hΦ hrec_40 hrec_53 _ _ _ _ _ h
  · replace h := h.2 c6
    refine WP.blk [(.aload_n 0, 1, (0, 0), .null), (.iload_n 3, 1, (0, 0), .null)] (G := True) (c' := (75, [some (.ref 39), some (.int x1), some (.int x2), some (.int x3), some (.int x4), some (.int x5), none], [.int x3, .ref 39], M)) (by decide +kernel) rfl trivial ?_
    refine WP.call (.invokevirtual 182, 3, (178, 2), .retAddr 7) (by decide +kernel) rfl (sp_R_isGear (d := d + 2) h (fun r7 h => ?_))
    show WP (Ct (d + 3)) 184 Post (78, [some (.ref 39), some (.int x1), some (.int x2), some (.int x3), some (.int x4), some (.int x5), none], [.int r7], M)
    refine WP.br (.ifCond .eq 50, 3, (128, 0), .null) (by decide +kernel) rfl (fun c8 => ?_) (fun c8 => ?_)
    · replace h := h.1 c8
      refine WP.fgt [some (.ref 39), some (.int x1), some (.int x2), some (.int x3), some (.int x4), none, none] (by simp [fgt]) ?_
      exact L_R_tellRest_128 hΦ hrec_40 hrec_53 _ _ _ _ _ h
    · replace h := h.2 c8
      refine WP.blk [(.aload_n 0, 1, (0, 0), .null), (.iload 5, 2, (0, 0), .null)] (G := True) (c' := (84, [some (.ref 39), some (.int x1), some (.int x2), some (.int x3), some (.int x4), some (.int x5), none], [.int x5, .ref 39], M)) (by decide +kernel) rfl trivial ?_
      refine WP.call (.invokevirtual 182, 3, (178, 2), .retAddr 7) (by decide +kernel) rfl (sp_R_isGear (d := d + 2) h (fun r9 h => ?_))
      show WP (Ct (d + 3)) 184 Post (87, [some (.ref 39), some (.int x1), some (.int x2), some (.int x3), some (.int x4), some (.int x5), none], [.int r9], M)
      refine WP.br (.ifCond .eq 15, 3, (102, 0), .null) (by decide +kernel) rfl (fun c10 => ?_) (fun c10 => ?_)
      · replace h := h.1 c10
        refine WP.blk [(.ldc 190, 2, (0, 0), .int (1000000000))] (G := True) (c' := (104, [some (.ref 39), some (.int x1), some (.int x2), some (.int x3), some (.int x4), some (.int x5), none], [.int 1000000000], M)) (by decide +kernel) rfl trivial ?_
        exact L_R_tellRest_104 hΦ hrec_40 hrec_53 hrec_66 _ _ _ _ _ _ _ h
      · replace h := h.2 c10
        refine WP.blk [(.aload_n 0, 1, (0, 0), .null), (.iload_n 2, 1, (0, 0), .null), (.iload_n 3, 1, (0, 0), .null), (.iload 5, 2, (0, 0), .null), (.iload_n 1, 1, (0, 0), .null)] (G := True) (c' := (96, [some (.ref 39), some (.int x1), some (.int x2), some (.int x3), some (.int x4), some (.int x5), none], [.int x1, .int x5, .int x3, .int x2, .ref 39], M)) (by decide +kernel) rfl trivial ?_
        refine WP.call (.invokevirtual 191, 3, (185, 5), .retAddr 7) (by decide +kernel) rfl (sp_R_costBy (d := d + 0) h (fun r11 h => ?_))
        show WP (Ct (d + 3)) 184 Post (99, [some (.ref 39), some (.int x1), some (.int x2), some (.int x3), some (.int x4), some (.int x5), none], [.int r11], M)
        refine WP.blk [(.goto 5, 3, (104, 0), .null)] (G := True) (c' := (104, [some (.ref 39), some (.int x1), some (.int x2), some (.int x3), some (.int x4), some (.int x5), none], [.int r11], M)) (by decide +kernel) rfl trivial ?_
        exact L_R_tellRest_104 hΦ hrec_40 hrec_53 hrec_66 _ _ _ _ _ _ _ h
theorem P_R_tellRest_66 {d : Nat} {Post : Option Value → Mm → Prop} {rec_40 : Int32 × Int32 × Mm → Prop} {rec_53 : Int32 × Int32 × Int32 × Mm → Prop} {Φ : Mm → Prop} (hΦ : ∀ M1, Φ M1 → Post none M1) (hrec_40 : ∀ (x1 : Int32) (x2 : Int32) (M : Mm), rec_40 (x1, x2, M) → WP (Ct (d + 3)) 184 Post (40, [some (.ref 39), some (.int x1), some (.int x2), none, none, none, none], [], M)) (hrec_53 : ∀ (x1 : Int32) (x2 : Int32) (x3 : Int32) (M : Mm), rec_53 (x1, x2, x3, M) → WP (Ct (d + 3)) 184 Post (53, [some (.ref 39), some (.int x1), some (.int x2), some (.int x3), none, none, none], [], M)) : ∀ (n : Nat) (x1 : Int32) (x2 : Int32) (x3 : Int32) (x4 : Int32) (x5 : Int32) (M : Mm), lp (D_R_tellRest_66 Φ rec_40 rec_53) n (x1, x2, x3, x4, x5, M) → WP (Ct (d + 3)) 184 Post (66, [some (.ref 39), some (.int x1), some (.int x2), some (.int x3), some (.int x4), some (.int x5), none], [], M)
  | 0, x1, x2, x3, x4, x5, M, h => absurd h (by simp [lp])
  | n + 1, x1, x2, x3, x4, x5, M, h => L_R_tellRest_66 hΦ hrec_40 hrec_53 (P_R_tellRest_66 hΦ hrec_40 hrec_53 n) x1 x2 x3 x4 x5 M h
set_option maxRecDepth 100000 in
set_option maxHeartbeats 4000000 in
theorem L_R_tellRest_53 {d : Nat} {Post : Option Value → Mm → Prop} {rec_40 : Int32 × Int32 × Mm → Prop} {rec_53 : Int32 × Int32 × Int32 × Mm → Prop} {Φ : Mm → Prop} (hΦ : ∀ M1, Φ M1 → Post none M1) (hrec_40 : ∀ (x1 : Int32) (x2 : Int32) (M : Mm), rec_40 (x1, x2, M) → WP (Ct (d + 3)) 184 Post (40, [some (.ref 39), some (.int x1), some (.int x2), none, none, none, none], [], M)) (hrec_53 : ∀ (x1 : Int32) (x2 : Int32) (x3 : Int32) (M : Mm), rec_53 (x1, x2, x3, M) → WP (Ct (d + 3)) 184 Post (53, [some (.ref 39), some (.int x1), some (.int x2), some (.int x3), none, none, none], [], M)) : ∀ (x1 : Int32) (x2 : Int32) (x3 : Int32) (M : Mm), D_R_tellRest_53 Φ rec_40 rec_53 (x1, x2, x3, M) → WP (Ct (d + 3)) 184 Post (53, [some (.ref 39), some (.int x1), some (.int x2), some (.int x3), none, none, none], [], M) := by
  intro x1 x2 x3 M h
  replace h : ((18 ≤ x3 → rec_40 (x1, (x2 + (-1)), M)) ∧ (¬ (18 ≤ x3) → ∃ n, lp (D_R_tellRest_66 Φ rec_40 rec_53) n (x1, x2, x3, 1000000000, 0, M))) := h
  refine WP.blk [(.iload_n 3, 1, (0, 0), .null), (.bipush 18, 2, (0, 0), .int 18)] (G := True) (c' := (56, [some (.ref 39), some (.int x1), some (.int x2), some (.int x3), none, none, none], [.int 18, .int x3], M)) (by decide +kernel) rfl trivial ?_
  refine WP.br (.if_icmp .ge 91, 3, (147, 0), .null) (by decide +kernel) rfl (fun c4 => ?_) (fun c4 => ?_)
  · replace h := h.1 c4
    refine WP.blk [(.iinc 2 (-1), 3, (0, 0), .int (-1)), (.goto (-110), 3, (40, 0), .null)] (G := True) (c' := (40, [some (.ref 39), some (.int x1), some (.int (x2 + (-1))), some (.int x3), none, none, none], [], M)) (by decide +kernel) rfl trivial ?_
    refine WP.fgt [some (.ref 39), some (.int x1), some (.int (x2 + (-1))), none, none, none, none] (by simp [fgt]) ?_
    exact hrec_40 _ _ _ h
  · replace h := h.2 c4
    refine WP.blk [(.ldc 190, 2, (0, 0), .int (1000000000)), (.istore 4, 2, (0, 0), .null), (.iconst 0, 1, (0, 0), .int 0), (.istore 5, 2, (0, 0), .null)] (G := True) (c' := (66, [some (.ref 39), some (.int x1), some (.int x2), some (.int x3), some (.int 1000000000), some (.int 0), none], [], M)) (by decide +kernel) rfl trivial ?_
    obtain ⟨n, h⟩ := h
    exact P_R_tellRest_66 hΦ hrec_40 hrec_53 n _ _ _ _ _ _ h
theorem P_R_tellRest_53 {d : Nat} {Post : Option Value → Mm → Prop} {rec_40 : Int32 × Int32 × Mm → Prop} {Φ : Mm → Prop} (hΦ : ∀ M1, Φ M1 → Post none M1) (hrec_40 : ∀ (x1 : Int32) (x2 : Int32) (M : Mm), rec_40 (x1, x2, M) → WP (Ct (d + 3)) 184 Post (40, [some (.ref 39), some (.int x1), some (.int x2), none, none, none, none], [], M)) : ∀ (n : Nat) (x1 : Int32) (x2 : Int32) (x3 : Int32) (M : Mm), lp (D_R_tellRest_53 Φ rec_40) n (x1, x2, x3, M) → WP (Ct (d + 3)) 184 Post (53, [some (.ref 39), some (.int x1), some (.int x2), some (.int x3), none, none, none], [], M)
  | 0, x1, x2, x3, M, h => absurd h (by simp [lp])
  | n + 1, x1, x2, x3, M, h => L_R_tellRest_53 hΦ hrec_40 (P_R_tellRest_53 hΦ hrec_40 n) x1 x2 x3 M h
set_option maxRecDepth 100000 in
set_option maxHeartbeats 4000000 in
theorem L_R_tellRest_40 {d : Nat} {Post : Option Value → Mm → Prop} {rec_40 : Int32 × Int32 × Mm → Prop} {Φ : Mm → Prop} (hΦ : ∀ M1, Φ M1 → Post none M1) (hrec_40 : ∀ (x1 : Int32) (x2 : Int32) (M : Mm), rec_40 (x1, x2, M) → WP (Ct (d + 3)) 184 Post (40, [some (.ref 39), some (.int x1), some (.int x2), none, none, none, none], [], M)) : ∀ (x1 : Int32) (x2 : Int32) (M : Mm), D_R_tellRest_40 Φ rec_40 (x1, x2, M) → WP (Ct (d + 3)) 184 Post (40, [some (.ref 39), some (.int x1), some (.int x2), none, none, none, none], [], M) := by
  intro x1 x2 M h
  replace h : ((x2 < (M 44 (Int32.toNatClampNeg 6)) → Φ M) ∧ (¬ (x2 < (M 44 (Int32.toNatClampNeg 6))) → ∃ n, lp (D_R_tellRest_53 Φ rec_40) n (x1, x2, 0, M))) := h
  refine WP.blk [(.iload_n 2, 1, (0, 0), .null), (.aload_n 0, 1, (0, 0), .null), (.getfield 22, 3, (7, 6), .null), (.bipush 6, 2, (0, 0), .int 6), (.iaload, 1, (0, 0), .null)] (G := vp_in 6 35 ∧ True) (c' := (48, [some (.ref 39), some (.int x1), some (.int x2), none, none, none, none], [.int (M 44 (Int32.toNatClampNeg 6)), .int x2], M)) (by decide +kernel) rfl ⟨(vp_lit (by decide)), trivial⟩ ?_
  refine WP.br (.if_icmp .lt 105, 3, (153, 0), .null) (by decide +kernel) rfl (fun c3 => ?_) (fun c3 => ?_)
  · replace h := h.1 c3
    exact WP.ret (.return_, 1, (0, 0), .null) (rk := 0) (by decide +kernel) (by decide +kernel) rfl trivial (hΦ _ h)
  · replace h := h.2 c3
    refine WP.blk [(.iconst 0, 1, (0, 0), .int 0), (.istore_n 3, 1, (0, 0), .null)] (G := True) (c' := (53, [some (.ref 39), some (.int x1), some (.int x2), some (.int 0), none, none, none], [], M)) (by decide +kernel) rfl trivial ?_
    obtain ⟨n, h⟩ := h
    exact P_R_tellRest_53 hΦ hrec_40 n _ _ _ _ h
theorem P_R_tellRest_40 {d : Nat} {Post : Option Value → Mm → Prop} {Φ : Mm → Prop} (hΦ : ∀ M1, Φ M1 → Post none M1) : ∀ (n : Nat) (x1 : Int32) (x2 : Int32) (M : Mm), lp (D_R_tellRest_40 Φ) n (x1, x2, M) → WP (Ct (d + 3)) 184 Post (40, [some (.ref 39), some (.int x1), some (.int x2), none, none, none, none], [], M)
  | 0, x1, x2, M, h => absurd h (by simp [lp])
  | n + 1, x1, x2, M, h => L_R_tellRest_40 hΦ (P_R_tellRest_40 hΦ n) x1 x2 M h
set_option maxRecDepth 100000 in
set_option maxHeartbeats 4000000 in
theorem L_R_tellRest_2 {d : Nat} {Post : Option Value → Mm → Prop} {rec_2 : Int32 × Int32 × Mm → Prop} {Φ : Mm → Prop} (hΦ : ∀ M1, Φ M1 → Post none M1) (hrec_2 : ∀ (x1 : Int32) (x2 : Int32) (M : Mm), rec_2 (x1, x2, M) → WP (Ct (d + 3)) 184 Post (2, [some (.ref 39), some (.int x1), some (.int x2), none, none, none, none], [], M)) : ∀ (x1 : Int32) (x2 : Int32) (M : Mm), D_R_tellRest_2 Φ rec_2 (x1, x2, M) → WP (Ct (d + 3)) 184 Post (2, [some (.ref 39), some (.int x1), some (.int x2), none, none, none, none], [], M) := by
  intro x1 x2 M h
  replace h : ((18 ≤ x2 → ∃ n, lp (D_R_tellRest_40 Φ) n (x1, ((M 44 (Int32.toNatClampNeg 3)) - 1), M)) ∧ (¬ (18 ≤ x2) → vp_in ((18 * (M 44 (Int32.toNatClampNeg 3))) + x2) 126 ∧ (∀ M4, M4 = mu M 50 (Int32.toNatClampNeg ((18 * (M 44 (Int32.toNatClampNeg 3))) + x2)) 0 → rec_2 (x1, (x2 + 1), M4)))) := h
  refine WP.blk [(.iload_n 2, 1, (0, 0), .null), (.bipush 18, 2, (0, 0), .int 18)] (G := True) (c' := (5, [some (.ref 39), some (.int x1), some (.int x2), none, none, none, none], [.int 18, .int x2], M)) (by decide +kernel) rfl trivial ?_
  refine WP.br (.if_icmp .ge 26, 3, (31, 0), .null) (by decide +kernel) rfl (fun c3 => ?_) (fun c3 => ?_)
  · replace h := h.1 c3
    refine WP.blk [(.aload_n 0, 1, (0, 0), .null), (.getfield 22, 3, (7, 6), .null), (.iconst 3, 1, (0, 0), .int 3), (.iaload, 1, (0, 0), .null), (.iconst 1, 1, (0, 0), .int 1), (.isub, 1, (0, 0), .null), (.istore_n 2, 1, (0, 0), .null)] (G := vp_in 3 35 ∧ True) (c' := (40, [some (.ref 39), some (.int x1), some (.int ((M 44 (Int32.toNatClampNeg 3)) - 1)), none, none, none, none], [], M)) (by decide +kernel) rfl ⟨(vp_lit (by decide)), trivial⟩ ?_
    obtain ⟨n, h⟩ := h
    exact P_R_tellRest_40 hΦ n _ _ _ h
  · replace h := h.2 c3
    refine WP.blk [(.aload_n 0, 1, (0, 0), .null), (.getfield 42, 3, (7, 20), .null), (.bipush 18, 2, (0, 0), .int 18), (.aload_n 0, 1, (0, 0), .null), (.getfield 22, 3, (7, 6), .null), (.iconst 3, 1, (0, 0), .int 3), (.iaload, 1, (0, 0), .null), (.imul, 1, (0, 0), .null), (.iload_n 2, 1, (0, 0), .null), (.iadd, 1, (0, 0), .null), (.iconst 0, 1, (0, 0), .int 0), (.iastore, 1, (0, 0), .null)] (G := vp_in 3 35 ∧ vp_in ((18 * (M 44 (Int32.toNatClampNeg 3))) + x2) 126 ∧ True) (c' := (25, [some (.ref 39), some (.int x1), some (.int x2), none, none, none, none], [], (mu M 50 (Int32.toNatClampNeg ((18 * (M 44 (Int32.toNatClampNeg 3))) + x2)) 0))) (by decide +kernel) rfl ⟨(vp_lit (by decide)), h.1, trivial⟩ ?_
    replace h := h.2
    replace h := h (mu M 50 (Int32.toNatClampNeg ((18 * (M 44 (Int32.toNatClampNeg 3))) + x2)) 0) rfl
    generalize (mu M 50 (Int32.toNatClampNeg ((18 * (M 44 (Int32.toNatClampNeg 3))) + x2)) 0) = M4 at h ⊢
    refine WP.blk [(.iinc 2 1, 3, (0, 0), .int 1), (.goto (-26), 3, (2, 0), .null)] (G := True) (c' := (2, [some (.ref 39), some (.int x1), some (.int (x2 + 1)), none, none, none, none], [], M4)) (by decide +kernel) rfl trivial ?_
    exact hrec_2 _ _ _ h
theorem P_R_tellRest_2 {d : Nat} {Post : Option Value → Mm → Prop} {Φ : Mm → Prop} (hΦ : ∀ M1, Φ M1 → Post none M1) : ∀ (n : Nat) (x1 : Int32) (x2 : Int32) (M : Mm), lp (D_R_tellRest_2 Φ) n (x1, x2, M) → WP (Ct (d + 3)) 184 Post (2, [some (.ref 39), some (.int x1), some (.int x2), none, none, none, none], [], M)
  | 0, x1, x2, M, h => absurd h (by simp [lp])
  | n + 1, x1, x2, M, h => L_R_tellRest_2 hΦ (P_R_tellRest_2 hΦ n) x1 x2 M h
set_option maxRecDepth 100000 in
set_option maxHeartbeats 4000000 in
theorem sp_R_tellRest {d : Nat} {Post : Option Value → Mm → Prop} {M : Mm} {a1 : Int32} {Φ : Mm → Prop} (h : S_R_tellRest M a1 Φ) (hΦ : ∀ M1, Φ M1 → Post none M1) : Ct (d + 4) 184 [.ref 39, .int a1] M Post := by
  refine Ct.go (n := 7) (E := [some (.ref 39), some (.int a1), none, none, none, none, none]) (by decide +kernel) (by simp [Value.category]) rfl ?_
  refine WP.blk [(.iconst 0, 1, (0, 0), .int 0), (.istore_n 2, 1, (0, 0), .null)] (G := True) (c' := (2, [some (.ref 39), some (.int a1), some (.int 0), none, none, none, none], [], M)) (by decide +kernel) rfl trivial ?_
  obtain ⟨n, h⟩ := h
  exact P_R_tellRest_2 hΦ n _ _ _ h
/-- GearRoadModel.plan(I)I -/
def D_R_plan_186 (Φ : Int32 → Mm → Prop) (rec_114 : Int32 × Int32 × Int32 × Mm → Prop) (rec_135 : Int32 × Int32 × Int32 × Int32 × Int32 × Mm → Prop) : Int32 × Int32 × Int32 × Int32 × Int32 × Mm → Prop
  | (x1, x2, x3, x4, x5, M) => rec_135 (x1, x2, x3, x5, (x4 + (-1)), M)
def D_R_plan_184 (Φ : Int32 → Mm → Prop) (rec_114 : Int32 × Int32 × Int32 × Mm → Prop) (rec_135 : Int32 × Int32 × Int32 × Int32 × Int32 × Mm → Prop) : Int32 × Int32 × Int32 × Int32 × Int32 × Mm → Prop
  | (x1, x2, x3, x4, x5, M) => D_R_plan_186 Φ rec_114 rec_135 (x1, x2, x3, x5, x4, M)
def D_R_plan_135 (Φ : Int32 → Mm → Prop) (rec_114 : Int32 × Int32 × Int32 × Mm → Prop) (rec_135 : Int32 × Int32 × Int32 × Int32 × Int32 × Mm → Prop) : Int32 × Int32 × Int32 × Int32 × Int32 × Mm → Prop
  | (x1, x2, x3, x4, x5, M) => ((x5 < 0 → rec_114 (x1, x4, (x3 + 1), M)) ∧ (¬ (x5 < 0) → S_R_isGear M x5 (fun r7 => ((r7 = 0 → D_R_plan_184 Φ rec_114 rec_135 (x1, x2, x3, x4, x5, M)) ∧ (¬ (r7 = 0) → S_R_costBy M x3 x2 x5 (M 44 (Int32.toNatClampNeg 0)) (fun r9 => vp_in ((18 * x3) + x2) 126 ∧ ((r9 = (M 50 (Int32.toNatClampNeg ((18 * x3) + x2))) → D_R_plan_186 Φ rec_114 rec_135 (x1, x2, x3, x5, x5, M)) ∧ (¬ (r9 = (M 50 (Int32.toNatClampNeg ((18 * x3) + x2)))) → D_R_plan_184 Φ rec_114 rec_135 (x1, x2, x3, x4, x5, M)))))))))
def D_R_plan_114 (Φ : Int32 → Mm → Prop) (rec_114 : Int32 × Int32 × Int32 × Mm → Prop) : Int32 × Int32 × Int32 × Mm → Prop
  | (x1, x2, x3, M) => ((((M 44 (Int32.toNatClampNeg 6)) + x1) < x3 → Φ x2 M) ∧ (¬ (((M 44 (Int32.toNatClampNeg 6)) + x1) < x3) → ∃ n, lp (D_R_plan_135 Φ rec_114) n (x1, x2, x3, 0, 17, M)))
def D_R_plan_63 (Φ : Int32 → Mm → Prop) : Int32 × Mm → Prop
  | (x1, M) => ((x1 < 1000000000 → Φ x1 M) ∧ (¬ (x1 < 1000000000) → Φ (-1000000) M))
def S_R_plan (M : Mm) (a1 : Int32) (Φ : Int32 → Mm → Prop) : Prop := (((M 39 5) = 0 → Φ (-1000002) M) ∧ (¬ ((M 39 5) = 0) → (((-1) ≤ a1 → S_R_tellRest M (M 44 (Int32.toNatClampNeg 0)) (fun M3 => S_R_gearOf 44 M3 (fun r4 => vp_in ((18 * (M3 44 (Int32.toNatClampNeg 6))) + r4) 126 ∧ ((1000000000 ≤ (M3 50 (Int32.toNatClampNeg ((18 * (M3 44 (Int32.toNatClampNeg 6))) + r4))) → D_R_plan_63 Φ ((M3 50 (Int32.toNatClampNeg ((18 * (M3 44 (Int32.toNatClampNeg 6))) + r4))), M3)) ∧ (¬ (1000000000 ≤ (M3 50 (Int32.toNatClampNeg ((18 * (M3 44 (Int32.toNatClampNeg 6))) + r4)))) → ((a1 = (-1) → D_R_plan_63 Φ ((M3 50 (Int32.toNatClampNeg ((18 * (M3 44 (Int32.toNatClampNeg 6))) + r4))), M3)) ∧ (¬ (a1 = (-1)) → ((a1 < ((M3 44 (Int32.toNatClampNeg 3)) - (M3 44 (Int32.toNatClampNeg 6))) → S_R_gearOf 44 M3 (fun r8 => ∃ n, lp (D_R_plan_114 Φ) n (a1, r8, (M3 44 (Int32.toNatClampNeg 6)), M3))) ∧ (¬ (a1 < ((M3 44 (Int32.toNatClampNeg 3)) - (M3 44 (Int32.toNatClampNeg 6)))) → Φ (-1000000) M3))))))))) ∧ (¬ ((-1) ≤ a1) → Φ (-1000001) M))))
set_option maxRecDepth 100000 in
set_option maxHeartbeats 4000000 in
theorem L_R_plan_186 {d : Nat} {Post : Option Value → Mm → Prop} {rec_114 : Int32 × Int32 × Int32 × Mm → Prop} {rec_135 : Int32 × Int32 × Int32 × Int32 × Int32 × Mm → Prop} {Φ : Int32 → Mm → Prop} (hΦ : ∀ r M1, Φ r M1 → Post (some (.int r)) M1) (hrec_114 : ∀ (x1 : Int32) (x2 : Int32) (x3 : Int32) (M : Mm), rec_114 (x1, x2, x3, M) → WP (Ct (d + 4)) 183 Post (114, [some (.ref 39), some (.int x1), none, some (.int x2), some (.int x3), none, none], [], M)) (hrec_135 : ∀ (x1 : Int32) (x2 : Int32) (x3 : Int32) (x4 : Int32) (x5 : Int32) (M : Mm), rec_135 (x1, x2, x3, x4, x5, M) → WP (Ct (d + 4)) 183 Post (135, [some (.ref 39), some (.int x1), none, some (.int x2), some (.int x3), some (.int x4), some (.int x5)], [], M)) : ∀ (x1 : Int32) (x2 : Int32) (x3 : Int32) (x4 : Int32) (x5 : Int32) (M : Mm), D_R_plan_186 Φ rec_114 rec_135 (x1, x2, x3, x4, x5, M) → WP (Ct (d + 4)) 183 Post (186, [some (.ref 39), some (.int x1), none, some (.int x2), some (.int x3), none, some (.int x4)], [.int x5], M) := by
  intro x1 x2 x3 x4 x5 M h
  replace h : rec_135 (x1, x2, x3, x5, (x4 + (-1)), M) := h
  refine WP.blk [(.istore 5, 2, (0, 0), .null), (.iinc 6 (-1), 3, (0, 0), .int (-1)), (.goto (-56), 3, (135, 0), .null)] (G := True) (c' := (135, [some (.ref 39), some (.int x1), none, some (.int x2), some (.int x3), some (.int x5), some (.int (x4 + (-1)))], [], M)) (by decide +kernel) rfl trivial ?_
  exact hrec_135 _ _ _ _ _ _ h
set_option maxRecDepth 100000 in
set_option maxHeartbeats 4000000 in
theorem L_R_plan_184 {d : Nat} {Post : Option Value → Mm → Prop} {rec_114 : Int32 × Int32 × Int32 × Mm → Prop} {rec_135 : Int32 × Int32 × Int32 × Int32 × Int32 × Mm → Prop} {Φ : Int32 → Mm → Prop} (hΦ : ∀ r M1, Φ r M1 → Post (some (.int r)) M1) (hrec_114 : ∀ (x1 : Int32) (x2 : Int32) (x3 : Int32) (M : Mm), rec_114 (x1, x2, x3, M) → WP (Ct (d + 4)) 183 Post (114, [some (.ref 39), some (.int x1), none, some (.int x2), some (.int x3), none, none], [], M)) (hrec_135 : ∀ (x1 : Int32) (x2 : Int32) (x3 : Int32) (x4 : Int32) (x5 : Int32) (M : Mm), rec_135 (x1, x2, x3, x4, x5, M) → WP (Ct (d + 4)) 183 Post (135, [some (.ref 39), some (.int x1), none, some (.int x2), some (.int x3), some (.int x4), some (.int x5)], [], M)) : ∀ (x1 : Int32) (x2 : Int32) (x3 : Int32) (x4 : Int32) (x5 : Int32) (M : Mm), D_R_plan_184 Φ rec_114 rec_135 (x1, x2, x3, x4, x5, M) → WP (Ct (d + 4)) 183 Post (184, [some (.ref 39), some (.int x1), none, some (.int x2), some (.int x3), some (.int x4), some (.int x5)], [], M) := by
  intro x1 x2 x3 x4 x5 M h
  replace h : D_R_plan_186 Φ rec_114 rec_135 (x1, x2, x3, x5, x4, M) := h
  refine WP.blk [(.iload 5, 2, (0, 0), .null)] (G := True) (c' := (186, [some (.ref 39), some (.int x1), none, some (.int x2), some (.int x3), some (.int x4), some (.int x5)], [.int x4], M)) (by decide +kernel) rfl trivial ?_
  refine WP.fgt [some (.ref 39), some (.int x1), none, some (.int x2), some (.int x3), none, some (.int x5)] (by simp [fgt]) ?_
  exact L_R_plan_186 hΦ hrec_114 hrec_135 _ _ _ _ _ _ h
set_option maxRecDepth 100000 in
set_option maxHeartbeats 4000000 in
theorem L_R_plan_135 {d : Nat} {Post : Option Value → Mm → Prop} {rec_114 : Int32 × Int32 × Int32 × Mm → Prop} {rec_135 : Int32 × Int32 × Int32 × Int32 × Int32 × Mm → Prop} {Φ : Int32 → Mm → Prop} (hΦ : ∀ r M1, Φ r M1 → Post (some (.int r)) M1) (hrec_114 : ∀ (x1 : Int32) (x2 : Int32) (x3 : Int32) (M : Mm), rec_114 (x1, x2, x3, M) → WP (Ct (d + 4)) 183 Post (114, [some (.ref 39), some (.int x1), none, some (.int x2), some (.int x3), none, none], [], M)) (hrec_135 : ∀ (x1 : Int32) (x2 : Int32) (x3 : Int32) (x4 : Int32) (x5 : Int32) (M : Mm), rec_135 (x1, x2, x3, x4, x5, M) → WP (Ct (d + 4)) 183 Post (135, [some (.ref 39), some (.int x1), none, some (.int x2), some (.int x3), some (.int x4), some (.int x5)], [], M)) : ∀ (x1 : Int32) (x2 : Int32) (x3 : Int32) (x4 : Int32) (x5 : Int32) (M : Mm), D_R_plan_135 Φ rec_114 rec_135 (x1, x2, x3, x4, x5, M) → WP (Ct (d + 4)) 183 Post (135, [some (.ref 39), some (.int x1), none, some (.int x2), some (.int x3), some (.int x4), some (.int x5)], [], M) := by
  intro x1 x2 x3 x4 x5 M h
  replace h : ((x5 < 0 → rec_114 (x1, x4, (x3 + 1), M)) ∧ (¬ (x5 < 0) → S_R_isGear M x5 (fun r7 => ((r7 = 0 → D_R_plan_184 Φ rec_114 rec_135 (x1, x2, x3, x4, x5, M)) ∧ (¬ (r7 = 0) → S_R_costBy M x3 x2 x5 (M 44 (Int32.toNatClampNeg 0)) (fun r9 => vp_in ((18 * x3) + x2) 126 ∧ ((r9 = (M 50 (Int32.toNatClampNeg ((18 * x3) + x2))) → D_R_plan_186 Φ rec_114 rec_135 (x1, x2, x3, x5, x5, M)) ∧ (¬ (r9 = (M 50 (Int32.toNatClampNeg ((18 * x3) + x2)))) → D_R_plan_184 Φ rec_114 rec_135 (x1, x2, x3, x4, x5, M))))))))) := h
  refine WP.blk [(.iload 6, 2, (0, 0), .null)] (G := True) (c' := (137, [some (.ref 39), some (.int x1), none, some (.int x2), some (.int x3), some (.int x4), some (.int x5)], [.int x5], M)) (by decide +kernel) rfl trivial ?_
  refine WP.br (.ifCond .lt 57, 3, (194, 0), .null) (by decide +kernel) rfl (fun c6 => ?_) (fun c6 => ?_)
  · replace h := h.1 c6
    refine WP.blk [(.iload 5, 2, (0, 0), .null), (.istore_n 3, 1, (0, 0), .null), (.iinc 4 1, 3, (0, 0), .int 1), (.goto (-86), 3, (114, 0), .null)] (G := True) (c' := (114, [some (.ref 39), some (.int x1), none, some (.int x4), some (.int (x3 + 1)), some (.int x4), some (.int x5)], [], M)) (by decide +kernel) rfl trivial ?_
    refine WP.fgt [some (.ref 39), some (.int x1), none, some (.int x4), some (.int (x3 + 1)), none, none] (by simp [fgt]) ?_
    exact hrec_114 _ _ _ _ h
  · replace h := h.2 c6
    refine WP.blk [(.aload_n 0, 1, (0, 0), .null), (.iload 6, 2, (0, 0), .null)] (G := True) (c' := (143, [some (.ref 39), some (.int x1), none, some (.int x2), some (.int x3), some (.int x4), some (.int x5)], [.int x5, .ref 39], M)) (by decide +kernel) rfl trivial ?_
    refine WP.call (.invokevirtual 182, 3, (178, 2), .retAddr 7) (by decide +kernel) rfl (sp_R_isGear (d := d + 3) h (fun r7 h => ?_))
    show WP (Ct (d + 4)) 183 Post (146, [some (.ref 39), some (.int x1), none, some (.int x2), some (.int x3), some (.int x4), some (.int x5)], [.int r7], M)
    refine WP.br (.ifCond .eq 38, 3, (184, 0), .null) (by decide +kernel) rfl (fun c8 => ?_) (fun c8 => ?_)
    · replace h := h.1 c8
      exact L_R_plan_184 hΦ hrec_114 hrec_135 _ _ _ _ _ _ h
    · replace h := h.2 c8
      refine WP.blk [(.aload_n 0, 1, (0, 0), .null), (.iload 4, 2, (0, 0), .null), (.iload_n 3, 1, (0, 0), .null), (.iload 6, 2, (0, 0), .null), (.aload_n 0, 1, (0, 0), .null), (.getfield 22, 3, (7, 6), .null), (.iconst 0, 1, (0, 0), .int 0), (.iaload, 1, (0, 0), .null)] (G := vp_in 0 35 ∧ True) (c' := (161, [some (.ref 39), some (.int x1), none, some (.int x2), some (.int x3), some (.int x4), some (.int x5)], [.int (M 44 (Int32.toNatClampNeg 0)), .int x5, .int x2, .int x3, .ref 39], M)) (by decide +kernel) rfl ⟨(vp_lit (by decide)), trivial⟩ ?_
      refine WP.call (.invokevirtual 191, 3, (185, 5), .retAddr 7) (by decide +kernel) rfl (sp_R_costBy (d := d + 1) h (fun r9 h => ?_))
      show WP (Ct (d + 4)) 183 Post (164, [some (.ref 39), some (.int x1), none, some (.int x2), some (.int x3), some (.int x4), some (.int x5)], [.int r9], M)
      refine WP.blk [(.aload_n 0, 1, (0, 0), .null), (.getfield 42, 3, (7, 20), .null), (.bipush 18, 2, (0, 0), .int 18), (.iload 4, 2, (0, 0), .null), (.imul, 1, (0, 0), .null), (.iload_n 3, 1, (0, 0), .null), (.iadd, 1, (0, 0), .null), (.iaload, 1, (0, 0), .null)] (G := vp_in ((18 * x3) + x2) 126 ∧ True) (c' := (176, [some (.ref 39), some (.int x1), none, some (.int x2), some (.int x3), some (.int x4), some (.int x5)], [.int (M 50 (Int32.toNatClampNeg ((18 * x3) + x2))), .int r9], M)) (by decide +kernel) rfl ⟨h.1, trivial⟩ ?_
      replace h := h.2
      refine WP.br (.if_icmp .ne 8, 3, (184, 0), .null) (by decide +kernel) rfl (fun c10 => ?_) (fun c10 => ?_)
      · replace h := h.2 c10
        exact L_R_plan_184 hΦ hrec_114 hrec_135 _ _ _ _ _ _ h
      · replace h := h.1 (Classical.not_not.mp c10)
        refine WP.blk [(.iload 6, 2, (0, 0), .null), (.goto 5, 3, (186, 0), .null)] (G := True) (c' := (186, [some (.ref 39), some (.int x1), none, some (.int x2), some (.int x3), some (.int x4), some (.int x5)], [.int x5], M)) (by decide +kernel) rfl trivial ?_
        refine WP.fgt [some (.ref 39), some (.int x1), none, some (.int x2), some (.int x3), none, some (.int x5)] (by simp [fgt]) ?_
        exact L_R_plan_186 hΦ hrec_114 hrec_135 _ _ _ _ _ _ h
theorem P_R_plan_135 {d : Nat} {Post : Option Value → Mm → Prop} {rec_114 : Int32 × Int32 × Int32 × Mm → Prop} {Φ : Int32 → Mm → Prop} (hΦ : ∀ r M1, Φ r M1 → Post (some (.int r)) M1) (hrec_114 : ∀ (x1 : Int32) (x2 : Int32) (x3 : Int32) (M : Mm), rec_114 (x1, x2, x3, M) → WP (Ct (d + 4)) 183 Post (114, [some (.ref 39), some (.int x1), none, some (.int x2), some (.int x3), none, none], [], M)) : ∀ (n : Nat) (x1 : Int32) (x2 : Int32) (x3 : Int32) (x4 : Int32) (x5 : Int32) (M : Mm), lp (D_R_plan_135 Φ rec_114) n (x1, x2, x3, x4, x5, M) → WP (Ct (d + 4)) 183 Post (135, [some (.ref 39), some (.int x1), none, some (.int x2), some (.int x3), some (.int x4), some (.int x5)], [], M)
  | 0, x1, x2, x3, x4, x5, M, h => absurd h (by simp [lp])
  | n + 1, x1, x2, x3, x4, x5, M, h => L_R_plan_135 hΦ hrec_114 (P_R_plan_135 hΦ hrec_114 n) x1 x2 x3 x4 x5 M h
set_option maxRecDepth 100000 in
set_option maxHeartbeats 4000000 in
theorem L_R_plan_114 {d : Nat} {Post : Option Value → Mm → Prop} {rec_114 : Int32 × Int32 × Int32 × Mm → Prop} {Φ : Int32 → Mm → Prop} (hΦ : ∀ r M1, Φ r M1 → Post (some (.int r)) M1) (hrec_114 : ∀ (x1 : Int32) (x2 : Int32) (x3 : Int32) (M : Mm), rec_114 (x1, x2, x3, M) → WP (Ct (d + 4)) 183 Post (114, [some (.ref 39), some (.int x1), none, some (.int x2), some (.int x3), none, none], [], M)) : ∀ (x1 : Int32) (x2 : Int32) (x3 : Int32) (M : Mm), D_R_plan_114 Φ rec_114 (x1, x2, x3, M) → WP (Ct (d + 4)) 183 Post (114, [some (.ref 39), some (.int x1), none, some (.int x2), some (.int x3), none, none], [], M) := by
  intro x1 x2 x3 M h
  replace h : ((((M 44 (Int32.toNatClampNeg 6)) + x1) < x3 → Φ x2 M) ∧ (¬ (((M 44 (Int32.toNatClampNeg 6)) + x1) < x3) → ∃ n, lp (D_R_plan_135 Φ rec_114) n (x1, x2, x3, 0, 17, M))) := h
  refine WP.blk [(.iload 4, 2, (0, 0), .null), (.aload_n 0, 1, (0, 0), .null), (.getfield 22, 3, (7, 6), .null), (.bipush 6, 2, (0, 0), .int 6), (.iaload, 1, (0, 0), .null), (.iload_n 1, 1, (0, 0), .null), (.iadd, 1, (0, 0), .null)] (G := vp_in 6 35 ∧ True) (c' := (125, [some (.ref 39), some (.int x1), none, some (.int x2), some (.int x3), none, none], [.int ((M 44 (Int32.toNatClampNeg 6)) + x1), .int x3], M)) (by decide +kernel) rfl ⟨(vp_lit (by decide)), trivial⟩ ?_
  refine WP.br (.if_icmp .gt 78, 3, (203, 0), .null) (by decide +kernel) rfl (fun c4 => ?_) (fun c4 => ?_)
  · replace h := h.1 c4
    refine WP.blk [(.iload_n 3, 1, (0, 0), .null)] (G := True) (c' := (204, [some (.ref 39), some (.int x1), none, some (.int x2), some (.int x3), none, none], [.int x2], M)) (by decide +kernel) rfl trivial ?_
    exact WP.ret (.ireturn, 1, (0, 0), .null) (rk := 1) (by decide +kernel) (by decide +kernel) rfl trivial (hΦ _ _ h)
  · replace h := h.2 c4
    refine WP.blk [(.iconst 0, 1, (0, 0), .int 0), (.istore 5, 2, (0, 0), .null), (.bipush 17, 2, (0, 0), .int 17), (.istore 6, 2, (0, 0), .null)] (G := True) (c' := (135, [some (.ref 39), some (.int x1), none, some (.int x2), some (.int x3), some (.int 0), some (.int 17)], [], M)) (by decide +kernel) rfl trivial ?_
    obtain ⟨n, h⟩ := h
    exact P_R_plan_135 hΦ hrec_114 n _ _ _ _ _ _ h
theorem P_R_plan_114 {d : Nat} {Post : Option Value → Mm → Prop} {Φ : Int32 → Mm → Prop} (hΦ : ∀ r M1, Φ r M1 → Post (some (.int r)) M1) : ∀ (n : Nat) (x1 : Int32) (x2 : Int32) (x3 : Int32) (M : Mm), lp (D_R_plan_114 Φ) n (x1, x2, x3, M) → WP (Ct (d + 4)) 183 Post (114, [some (.ref 39), some (.int x1), none, some (.int x2), some (.int x3), none, none], [], M)
  | 0, x1, x2, x3, M, h => absurd h (by simp [lp])
  | n + 1, x1, x2, x3, M, h => L_R_plan_114 hΦ (P_R_plan_114 hΦ n) x1 x2 x3 M h
set_option maxRecDepth 100000 in
set_option maxHeartbeats 4000000 in
theorem L_R_plan_63 {d : Nat} {Post : Option Value → Mm → Prop} {Φ : Int32 → Mm → Prop} (hΦ : ∀ r M1, Φ r M1 → Post (some (.int r)) M1) : ∀ (x1 : Int32) (M : Mm), D_R_plan_63 Φ (x1, M) → WP (Ct (d + 4)) 183 Post (63, [none, none, some (.int x1), none, none, none, none], [], M) := by
  intro x1 M h
  replace h : ((x1 < 1000000000 → Φ x1 M) ∧ (¬ (x1 < 1000000000) → Φ (-1000000) M)) := h
  refine WP.blk [(.iload_n 2, 1, (0, 0), .null), (.ldc 190, 2, (0, 0), .int (1000000000))] (G := True) (c' := (66, [none, none, some (.int x1), none, none, none, none], [.int 1000000000, .int x1], M)) (by decide +kernel) rfl trivial ?_
  refine WP.br (.if_icmp .lt 8, 3, (74, 0), .null) (by decide +kernel) rfl (fun c2 => ?_) (fun c2 => ?_)
  · replace h := h.1 c2
    refine WP.blk [(.iload_n 2, 1, (0, 0), .null)] (G := True) (c' := (75, [none, none, some (.int x1), none, none, none, none], [.int x1], M)) (by decide +kernel) rfl trivial ?_
    exact WP.ret (.ireturn, 1, (0, 0), .null) (rk := 1) (by decide +kernel) (by decide +kernel) rfl trivial (hΦ _ _ h)
  · replace h := h.2 c2
    refine WP.blk [(.ldc 185, 2, (0, 0), .int (-1000000)), (.goto 4, 3, (75, 0), .null)] (G := True) (c' := (75, [none, none, some (.int x1), none, none, none, none], [.int (-1000000)], M)) (by decide +kernel) rfl trivial ?_
    exact WP.ret (.ireturn, 1, (0, 0), .null) (rk := 1) (by decide +kernel) (by decide +kernel) rfl trivial (hΦ _ _ h)
set_option maxRecDepth 100000 in
set_option maxHeartbeats 4000000 in
theorem sp_R_plan {d : Nat} {Post : Option Value → Mm → Prop} {M : Mm} {a1 : Int32} {Φ : Int32 → Mm → Prop} (h : S_R_plan M a1 Φ) (hΦ : ∀ r M1, Φ r M1 → Post (some (.int r)) M1) : Ct (d + 5) 183 [.ref 39, .int a1] M Post := by
  refine Ct.go (n := 7) (E := [some (.ref 39), some (.int a1), none, none, none, none, none]) (by decide +kernel) (by simp [Value.category]) rfl ?_
  refine WP.blk [(.aload_n 0, 1, (0, 0), .null), (.getfield 136, 3, (7, 5), .null)] (G := True) (c' := (4, [some (.ref 39), some (.int a1), none, none, none, none, none], [.int (M 39 5)], M)) (by decide +kernel) rfl trivial ?_
  refine WP.br (.ifCond .ne 6, 3, (10, 0), .null) (by decide +kernel) rfl (fun c1 => ?_) (fun c1 => ?_)
  · replace h := h.2 c1
    refine WP.blk [(.iload_n 1, 1, (0, 0), .null), (.iconst (-1), 1, (0, 0), .int (-1))] (G := True) (c' := (12, [some (.ref 39), some (.int a1), none, none, none, none, none], [.int (-1), .int a1], M)) (by decide +kernel) rfl trivial ?_
    refine WP.br (.if_icmp .ge 6, 3, (18, 0), .null) (by decide +kernel) rfl (fun c2 => ?_) (fun c2 => ?_)
    · replace h := h.1 c2
      refine WP.blk [(.aload_n 0, 1, (0, 0), .null), (.aload_n 0, 1, (0, 0), .null), (.getfield 22, 3, (7, 6), .null), (.iconst 0, 1, (0, 0), .int 0), (.iaload, 1, (0, 0), .null)] (G := vp_in 0 35 ∧ True) (c' := (25, [some (.ref 39), some (.int a1), none, none, none, none, none], [.int (M 44 (Int32.toNatClampNeg 0)), .ref 39], M)) (by decide +kernel) rfl ⟨(vp_lit (by decide)), trivial⟩ ?_
      refine WP.call (.invokevirtual 195, 3, (184, 2), .retAddr 7) (by decide +kernel) rfl (sp_R_tellRest (d := d + 0) h (fun M3 h => ?_))
      show WP (Ct (d + 4)) 183 Post (28, [some (.ref 39), some (.int a1), none, none, none, none, none], [], M3)
      refine WP.blk [(.aload_n 0, 1, (0, 0), .null), (.getfield 42, 3, (7, 20), .null), (.bipush 18, 2, (0, 0), .int 18), (.aload_n 0, 1, (0, 0), .null), (.getfield 22, 3, (7, 6), .null), (.bipush 6, 2, (0, 0), .int 6), (.iaload, 1, (0, 0), .null), (.imul, 1, (0, 0), .null), (.aload_n 0, 1, (0, 0), .null), (.getfield 22, 3, (7, 6), .null)] (G := vp_in 6 35 ∧ True) (c' := (46, [some (.ref 39), some (.int a1), none, none, none, none, none], [.ref 44, .int (18 * (M3 44 (Int32.toNatClampNeg 6))), .ref 50], M3)) (by decide +kernel) rfl ⟨(vp_lit (by decide)), trivial⟩ ?_
      refine WP.call (.invokestatic 146, 3, (157, 1), .null) (by decide +kernel) rfl (sp_R_gearOf (d := d + 3) (by decide) h (fun r4 h => ?_))
      show WP (Ct (d + 4)) 183 Post (49, [some (.ref 39), some (.int a1), none, none, none, none, none], [.int r4, .int (18 * (M3 44 (Int32.toNatClampNeg 6))), .ref 50], M3)
      refine WP.blk [(.iadd, 1, (0, 0), .null), (.iaload, 1, (0, 0), .null), (.istore_n 2, 1, (0, 0), .null), (.iload_n 2, 1, (0, 0), .null), (.ldc 190, 2, (0, 0), .int (1000000000))] (G := vp_in ((18 * (M3 44 (Int32.toNatClampNeg 6))) + r4) 126 ∧ True) (c' := (55, [some (.ref 39), some (.int a1), some (.int (M3 50 (Int32.toNatClampNeg ((18 * (M3 44 (Int32.toNatClampNeg 6))) + r4)))), none, none, none, none], [.int 1000000000, .int (M3 50 (Int32.toNatClampNeg ((18 * (M3 44 (Int32.toNatClampNeg 6))) + r4)))], M3)) (by decide +kernel) rfl ⟨h.1, trivial⟩ ?_
      replace h := h.2
      refine WP.br (.if_icmp .ge 8, 3, (63, 0), .null) (by decide +kernel) rfl (fun c5 => ?_) (fun c5 => ?_)
      · replace h := h.1 c5
        refine WP.fgt [none, none, some (.int (M3 50 (Int32.toNatClampNeg ((18 * (M3 44 (Int32.toNatClampNeg 6))) + r4)))), none, none, none, none] (by simp [fgt]) ?_
        exact L_R_plan_63 hΦ _ _ h
      · replace h := h.2 c5
        refine WP.blk [(.iload_n 1, 1, (0, 0), .null), (.iconst (-1), 1, (0, 0), .int (-1))] (G := True) (c' := (60, [some (.ref 39), some (.int a1), some (.int (M3 50 (Int32.toNatClampNeg ((18 * (M3 44 (Int32.toNatClampNeg 6))) + r4)))), none, none, none, none], [.int (-1), .int a1], M3)) (by decide +kernel) rfl trivial ?_
        refine WP.br (.if_icmp .ne 16, 3, (76, 0), .null) (by decide +kernel) rfl (fun c6 => ?_) (fun c6 => ?_)
        · replace h := h.2 c6
          refine WP.blk [(.iload_n 1, 1, (0, 0), .null), (.aload_n 0, 1, (0, 0), .null), (.getfield 22, 3, (7, 6), .null), (.iconst 3, 1, (0, 0), .int 3), (.iaload, 1, (0, 0), .null), (.aload_n 0, 1, (0, 0), .null), (.getfield 22, 3, (7, 6), .null), (.bipush 6, 2, (0, 0), .int 6), (.iaload, 1, (0, 0), .null), (.isub, 1, (0, 0), .null)] (G := vp_in 3 35 ∧ vp_in 6 35 ∧ True) (c' := (91, [some (.ref 39), some (.int a1), some (.int (M3 50 (Int32.toNatClampNeg ((18 * (M3 44 (Int32.toNatClampNeg 6))) + r4)))), none, none, none, none], [.int ((M3 44 (Int32.toNatClampNeg 3)) - (M3 44 (Int32.toNatClampNeg 6))), .int a1], M3)) (by decide +kernel) rfl ⟨(vp_lit (by decide)), (vp_lit (by decide)), trivial⟩ ?_
          refine WP.br (.if_icmp .lt 6, 3, (97, 0), .null) (by decide +kernel) rfl (fun c7 => ?_) (fun c7 => ?_)
          · replace h := h.1 c7
            refine WP.blk [(.aload_n 0, 1, (0, 0), .null), (.getfield 22, 3, (7, 6), .null)] (G := True) (c' := (101, [some (.ref 39), some (.int a1), some (.int (M3 50 (Int32.toNatClampNeg ((18 * (M3 44 (Int32.toNatClampNeg 6))) + r4)))), none, none, none, none], [.ref 44], M3)) (by decide +kernel) rfl trivial ?_
            refine WP.call (.invokestatic 146, 3, (157, 1), .null) (by decide +kernel) rfl (sp_R_gearOf (d := d + 3) (by decide) h (fun r8 h => ?_))
            show WP (Ct (d + 4)) 183 Post (104, [some (.ref 39), some (.int a1), some (.int (M3 50 (Int32.toNatClampNeg ((18 * (M3 44 (Int32.toNatClampNeg 6))) + r4)))), none, none, none, none], [.int r8], M3)
            refine WP.blk [(.istore_n 3, 1, (0, 0), .null), (.aload_n 0, 1, (0, 0), .null), (.getfield 22, 3, (7, 6), .null), (.bipush 6, 2, (0, 0), .int 6), (.iaload, 1, (0, 0), .null), (.istore 4, 2, (0, 0), .null)] (G := vp_in 6 35 ∧ True) (c' := (114, [some (.ref 39), some (.int a1), some (.int (M3 50 (Int32.toNatClampNeg ((18 * (M3 44 (Int32.toNatClampNeg 6))) + r4)))), some (.int r8), some (.int (M3 44 (Int32.toNatClampNeg 6))), none, none], [], M3)) (by decide +kernel) rfl ⟨(vp_lit (by decide)), trivial⟩ ?_
            refine WP.fgt [some (.ref 39), some (.int a1), none, some (.int r8), some (.int (M3 44 (Int32.toNatClampNeg 6))), none, none] (by simp [fgt]) ?_
            obtain ⟨n, h⟩ := h
            exact P_R_plan_114 hΦ n _ _ _ _ h
          · replace h := h.2 c7
            refine WP.blk [(.ldc 185, 2, (0, 0), .int (-1000000))] (G := True) (c' := (96, [some (.ref 39), some (.int a1), some (.int (M3 50 (Int32.toNatClampNeg ((18 * (M3 44 (Int32.toNatClampNeg 6))) + r4)))), none, none, none, none], [.int (-1000000)], M3)) (by decide +kernel) rfl trivial ?_
            exact WP.ret (.ireturn, 1, (0, 0), .null) (rk := 1) (by decide +kernel) (by decide +kernel) rfl trivial (hΦ _ _ h)
        · replace h := h.1 (Classical.not_not.mp c6)
          refine WP.fgt [none, none, some (.int (M3 50 (Int32.toNatClampNeg ((18 * (M3 44 (Int32.toNatClampNeg 6))) + r4)))), none, none, none, none] (by simp [fgt]) ?_
          exact L_R_plan_63 hΦ _ _ h
    · replace h := h.2 c2
      refine WP.blk [(.ldc 61, 2, (0, 0), .int (-1000001))] (G := True) (c' := (17, [some (.ref 39), some (.int a1), none, none, none, none, none], [.int (-1000001)], M)) (by decide +kernel) rfl trivial ?_
      exact WP.ret (.ireturn, 1, (0, 0), .null) (rk := 1) (by decide +kernel) (by decide +kernel) rfl trivial (hΦ _ _ h)
  · replace h := h.1 (Classical.not_not.mp c1)
    refine WP.blk [(.ldc 154, 2, (0, 0), .int (-1000002))] (G := True) (c' := (9, [some (.ref 39), some (.int a1), none, none, none, none, none], [.int (-1000002)], M)) (by decide +kernel) rfl trivial ?_
    exact WP.ret (.ireturn, 1, (0, 0), .null) (rk := 1) (by decide +kernel) (by decide +kernel) rfl trivial (hΦ _ _ h)
/-- GearRoadModel.least()I -/
def D_R_least_12 (Φ : Int32 → Mm → Prop) (rec_12 : Int32 × Mm → Prop) : Int32 × Mm → Prop
  | (x1, M) => ((99 < x1 → Φ (-1000000) M) ∧ (¬ (99 < x1) → S_R_tellRest M x1 (fun M3 => S_R_gearOf 44 M3 (fun r4 => vp_in ((18 * (M3 44 (Int32.toNatClampNeg 6))) + r4) 126 ∧ ((1000000000 ≤ (M3 50 (Int32.toNatClampNeg ((18 * (M3 44 (Int32.toNatClampNeg 6))) + r4))) → rec_12 ((x1 + 1), M3)) ∧ (¬ (1000000000 ≤ (M3 50 (Int32.toNatClampNeg ((18 * (M3 44 (Int32.toNatClampNeg 6))) + r4)))) → Φ x1 M3))))))
def S_R_least (M : Mm) (Φ : Int32 → Mm → Prop) : Prop := (((M 39 5) = 0 → Φ (-1000002) M) ∧ (¬ ((M 39 5) = 0) → ∃ n, lp (D_R_least_12 Φ) n (1, M)))
set_option maxRecDepth 100000 in
set_option maxHeartbeats 4000000 in
theorem L_R_least_12 {d : Nat} {Post : Option Value → Mm → Prop} {rec_12 : Int32 × Mm → Prop} {Φ : Int32 → Mm → Prop} (hΦ : ∀ r M1, Φ r M1 → Post (some (.int r)) M1) (hrec_12 : ∀ (x1 : Int32) (M : Mm), rec_12 (x1, M) → WP (Ct (d + 4)) 186 Post (12, [some (.ref 39), some (.int x1)], [], M)) : ∀ (x1 : Int32) (M : Mm), D_R_least_12 Φ rec_12 (x1, M) → WP (Ct (d + 4)) 186 Post (12, [some (.ref 39), some (.int x1)], [], M) := by
  intro x1 M h
  replace h : ((99 < x1 → Φ (-1000000) M) ∧ (¬ (99 < x1) → S_R_tellRest M x1 (fun M3 => S_R_gearOf 44 M3 (fun r4 => vp_in ((18 * (M3 44 (Int32.toNatClampNeg 6))) + r4) 126 ∧ ((1000000000 ≤ (M3 50 (Int32.toNatClampNeg ((18 * (M3 44 (Int32.toNatClampNeg 6))) + r4))) → rec_12 ((x1 + 1), M3)) ∧ (¬ (1000000000 ≤ (M3 50 (Int32.toNatClampNeg ((18 * (M3 44 (Int32.toNatClampNeg 6))) + r4)))) → Φ x1 M3)))))) := h
  refine WP.blk [(.iload_n 1, 1, (0, 0), .null), (.bipush 99, 2, (0, 0), .int 99)] (G := True) (c' := (15, [some (.ref 39), some (.int x1)], [.int 99, .int x1], M)) (by decide +kernel) rfl trivial ?_
  refine WP.br (.if_icmp .gt 44, 3, (59, 0), .null) (by decide +kernel) rfl (fun c2 => ?_) (fun c2 => ?_)
  · replace h := h.1 c2
    refine WP.blk [(.ldc 185, 2, (0, 0), .int (-1000000))] (G := True) (c' := (61, [some (.ref 39), some (.int x1)], [.int (-1000000)], M)) (by decide +kernel) rfl trivial ?_
    exact WP.ret (.ireturn, 1, (0, 0), .null) (rk := 1) (by decide +kernel) (by decide +kernel) rfl trivial (hΦ _ _ h)
  · replace h := h.2 c2
    refine WP.blk [(.aload_n 0, 1, (0, 0), .null), (.iload_n 1, 1, (0, 0), .null)] (G := True) (c' := (20, [some (.ref 39), some (.int x1)], [.int x1, .ref 39], M)) (by decide +kernel) rfl trivial ?_
    refine WP.call (.invokevirtual 195, 3, (184, 2), .retAddr 7) (by decide +kernel) rfl (sp_R_tellRest (d := d + 0) h (fun M3 h => ?_))
    show WP (Ct (d + 4)) 186 Post (23, [some (.ref 39), some (.int x1)], [], M3)
    refine WP.blk [(.aload_n 0, 1, (0, 0), .null), (.getfield 42, 3, (7, 20), .null), (.bipush 18, 2, (0, 0), .int 18), (.aload_n 0, 1, (0, 0), .null), (.getfield 22, 3, (7, 6), .null), (.bipush 6, 2, (0, 0), .int 6), (.iaload, 1, (0, 0), .null), (.imul, 1, (0, 0), .null), (.aload_n 0, 1, (0, 0), .null), (.getfield 22, 3, (7, 6), .null)] (G := vp_in 6 35 ∧ True) (c' := (41, [some (.ref 39), some (.int x1)], [.ref 44, .int (18 * (M3 44 (Int32.toNatClampNeg 6))), .ref 50], M3)) (by decide +kernel) rfl ⟨(vp_lit (by decide)), trivial⟩ ?_
    refine WP.call (.invokestatic 146, 3, (157, 1), .null) (by decide +kernel) rfl (sp_R_gearOf (d := d + 3) (by decide) h (fun r4 h => ?_))
    show WP (Ct (d + 4)) 186 Post (44, [some (.ref 39), some (.int x1)], [.int r4, .int (18 * (M3 44 (Int32.toNatClampNeg 6))), .ref 50], M3)
    refine WP.blk [(.iadd, 1, (0, 0), .null), (.iaload, 1, (0, 0), .null), (.ldc 190, 2, (0, 0), .int (1000000000))] (G := vp_in ((18 * (M3 44 (Int32.toNatClampNeg 6))) + r4) 126 ∧ True) (c' := (48, [some (.ref 39), some (.int x1)], [.int 1000000000, .int (M3 50 (Int32.toNatClampNeg ((18 * (M3 44 (Int32.toNatClampNeg 6))) + r4)))], M3)) (by decide +kernel) rfl ⟨h.1, trivial⟩ ?_
    replace h := h.2
    refine WP.br (.if_icmp .ge 5, 3, (53, 0), .null) (by decide +kernel) rfl (fun c5 => ?_) (fun c5 => ?_)
    · replace h := h.1 c5
      refine WP.blk [(.iinc 1 1, 3, (0, 0), .int 1), (.goto (-44), 3, (12, 0), .null)] (G := True) (c' := (12, [some (.ref 39), some (.int (x1 + 1))], [], M3)) (by decide +kernel) rfl trivial ?_
      exact hrec_12 _ _ h
    · replace h := h.2 c5
      refine WP.blk [(.iload_n 1, 1, (0, 0), .null)] (G := True) (c' := (52, [some (.ref 39), some (.int x1)], [.int x1], M3)) (by decide +kernel) rfl trivial ?_
      exact WP.ret (.ireturn, 1, (0, 0), .null) (rk := 1) (by decide +kernel) (by decide +kernel) rfl trivial (hΦ _ _ h)
theorem P_R_least_12 {d : Nat} {Post : Option Value → Mm → Prop} {Φ : Int32 → Mm → Prop} (hΦ : ∀ r M1, Φ r M1 → Post (some (.int r)) M1) : ∀ (n : Nat) (x1 : Int32) (M : Mm), lp (D_R_least_12 Φ) n (x1, M) → WP (Ct (d + 4)) 186 Post (12, [some (.ref 39), some (.int x1)], [], M)
  | 0, x1, M, h => absurd h (by simp [lp])
  | n + 1, x1, M, h => L_R_least_12 hΦ (P_R_least_12 hΦ n) x1 M h
set_option maxRecDepth 100000 in
set_option maxHeartbeats 4000000 in
theorem sp_R_least {d : Nat} {Post : Option Value → Mm → Prop} {M : Mm} {Φ : Int32 → Mm → Prop} (h : S_R_least M Φ) (hΦ : ∀ r M1, Φ r M1 → Post (some (.int r)) M1) : Ct (d + 5) 186 [.ref 39] M Post := by
  refine Ct.go (n := 2) (E := [some (.ref 39), none]) (by decide +kernel) (by simp [Value.category]) rfl ?_
  refine WP.blk [(.aload_n 0, 1, (0, 0), .null), (.getfield 136, 3, (7, 5), .null)] (G := True) (c' := (4, [some (.ref 39), none], [.int (M 39 5)], M)) (by decide +kernel) rfl trivial ?_
  refine WP.br (.ifCond .ne 6, 3, (10, 0), .null) (by decide +kernel) rfl (fun c1 => ?_) (fun c1 => ?_)
  · replace h := h.2 c1
    refine WP.blk [(.iconst 1, 1, (0, 0), .int 1), (.istore_n 1, 1, (0, 0), .null)] (G := True) (c' := (12, [some (.ref 39), some (.int 1)], [], M)) (by decide +kernel) rfl trivial ?_
    obtain ⟨n, h⟩ := h
    exact P_R_least_12 hΦ n _ _ h
  · replace h := h.1 (Classical.not_not.mp c1)
    refine WP.blk [(.ldc 154, 2, (0, 0), .int (-1000002))] (G := True) (c' := (9, [some (.ref 39), none], [.int (-1000002)], M)) (by decide +kernel) rfl trivial ?_
    exact WP.ret (.ireturn, 1, (0, 0), .null) (rk := 1) (by decide +kernel) (by decide +kernel) rfl trivial (hΦ _ _ h)
/-- GearRoadModel.rank(II)I -/
def D_R_rank_137 (M : Mm) (Φ : Int32 → Prop) (rec_25 : Int32 × Int32 × Int32 × Int32 → Prop) : Int32 × Int32 × Int32 × Int32 → Prop
  | (x1, x2, x3, x4) => rec_25 (x1, x2, x3, (x4 + 1))
def D_R_rank_135 (M : Mm) (Φ : Int32 → Prop) (rec_25 : Int32 × Int32 × Int32 × Int32 → Prop) : Int32 × Int32 × Int32 × Int32 × Int32 → Prop
  | (x1, x2, x3, x4, x5) => D_R_rank_137 M Φ rec_25 (x1, x2, (x5 + x4), x3)
def D_R_rank_25 (M : Mm) (Φ : Int32 → Prop) (rec_25 : Int32 × Int32 × Int32 × Int32 → Prop) : Int32 × Int32 × Int32 × Int32 → Prop
  | (x1, x2, x3, x4) => ((18 ≤ x4 → Φ x3) ∧ (¬ (18 ≤ x4) → S_R_isGear M x4 (fun r6 => ((r6 = 0 → D_R_rank_137 M Φ rec_25 (x1, x2, x3, x4)) ∧ (¬ (r6 = 0) → ((x4 = x1 → D_R_rank_137 M Φ rec_25 (x1, x2, x3, x4)) ∧ (¬ (x4 = x1) → vp_in (8 + (x4 / 6)) 35 ∧ vp_in (17 + (irm x1 6)) 35 ∧ vp_in (8 + (x1 / 6)) 35 ∧ vp_in (17 + (irm x4 6)) 35 ∧ ((x2 = 0 → ((((M 44 (Int32.toNatClampNeg (8 + (x1 / 6)))) * (M 44 (Int32.toNatClampNeg (17 + (irm x4 6))))) ≤ ((M 44 (Int32.toNatClampNeg (8 + (x4 / 6)))) * (M 44 (Int32.toNatClampNeg (17 + (irm x1 6))))) → D_R_rank_135 M Φ rec_25 (x1, x2, x4, 0, x3)) ∧ (¬ (((M 44 (Int32.toNatClampNeg (8 + (x1 / 6)))) * (M 44 (Int32.toNatClampNeg (17 + (irm x4 6))))) ≤ ((M 44 (Int32.toNatClampNeg (8 + (x4 / 6)))) * (M 44 (Int32.toNatClampNeg (17 + (irm x1 6)))))) → D_R_rank_135 M Φ rec_25 (x1, x2, x4, 1, x3)))) ∧ (¬ (x2 = 0) → ((((M 44 (Int32.toNatClampNeg (8 + (x4 / 6)))) * (M 44 (Int32.toNatClampNeg (17 + (irm x1 6))))) = ((M 44 (Int32.toNatClampNeg (8 + (x1 / 6)))) * (M 44 (Int32.toNatClampNeg (17 + (irm x4 6))))) → D_R_rank_135 M Φ rec_25 (x1, x2, x4, 1, x3)) ∧ (¬ (((M 44 (Int32.toNatClampNeg (8 + (x4 / 6)))) * (M 44 (Int32.toNatClampNeg (17 + (irm x1 6))))) = ((M 44 (Int32.toNatClampNeg (8 + (x1 / 6)))) * (M 44 (Int32.toNatClampNeg (17 + (irm x4 6)))))) → D_R_rank_135 M Φ rec_25 (x1, x2, x4, 0, x3))))))))))))
def S_R_rank (M : Mm) (a1 : Int32) (a2 : Int32) (Φ : Int32 → Prop) : Prop := S_R_isGear M a1 (fun r1 => ((r1 = 0 → Φ (-1000001)) ∧ (¬ (r1 = 0) → S_R_in M a2 0 1 (fun r3 => ((r3 = 0 → Φ (-1000001)) ∧ (¬ (r3 = 0) → ∃ n, lp (D_R_rank_25 M Φ) n (a1, a2, 0, 0)))))))
set_option maxRecDepth 100000 in
set_option maxHeartbeats 4000000 in
theorem L_R_rank_137 {d : Nat} {Post : Option Value → Mm → Prop} {M : Mm} {rec_25 : Int32 × Int32 × Int32 × Int32 → Prop} {Φ : Int32 → Prop} (hΦ : ∀ r, Φ r → Post (some (.int r)) M) (hrec_25 : ∀ (x1 : Int32) (x2 : Int32) (x3 : Int32) (x4 : Int32), rec_25 (x1, x2, x3, x4) → WP (Ct (d + 1)) 187 Post (25, [some (.ref 39), some (.int x1), some (.int x2), some (.int x3), some (.int x4), none, none], [], M)) : ∀ (x1 : Int32) (x2 : Int32) (x3 : Int32) (x4 : Int32), D_R_rank_137 M Φ rec_25 (x1, x2, x3, x4) → WP (Ct (d + 1)) 187 Post (137, [some (.ref 39), some (.int x1), some (.int x2), some (.int x3), some (.int x4), none, none], [], M) := by
  intro x1 x2 x3 x4 h
  replace h : rec_25 (x1, x2, x3, (x4 + 1)) := h
  refine WP.blk [(.iinc 4 1, 3, (0, 0), .int 1), (.goto (-115), 3, (25, 0), .null)] (G := True) (c' := (25, [some (.ref 39), some (.int x1), some (.int x2), some (.int x3), some (.int (x4 + 1)), none, none], [], M)) (by decide +kernel) rfl trivial ?_
  exact hrec_25 _ _ _ _ h
set_option maxRecDepth 100000 in
set_option maxHeartbeats 4000000 in
theorem L_R_rank_135 {d : Nat} {Post : Option Value → Mm → Prop} {M : Mm} {rec_25 : Int32 × Int32 × Int32 × Int32 → Prop} {Φ : Int32 → Prop} (hΦ : ∀ r, Φ r → Post (some (.int r)) M) (hrec_25 : ∀ (x1 : Int32) (x2 : Int32) (x3 : Int32) (x4 : Int32), rec_25 (x1, x2, x3, x4) → WP (Ct (d + 1)) 187 Post (25, [some (.ref 39), some (.int x1), some (.int x2), some (.int x3), some (.int x4), none, none], [], M)) : ∀ (x1 : Int32) (x2 : Int32) (x3 : Int32) (x4 : Int32) (x5 : Int32), D_R_rank_135 M Φ rec_25 (x1, x2, x3, x4, x5) → WP (Ct (d + 1)) 187 Post (135, [some (.ref 39), some (.int x1), some (.int x2), none, some (.int x3), none, none], [.int x4, .int x5], M) := by
  intro x1 x2 x3 x4 x5 h
  replace h : D_R_rank_137 M Φ rec_25 (x1, x2, (x5 + x4), x3) := h
  refine WP.blk [(.iadd, 1, (0, 0), .null), (.istore_n 3, 1, (0, 0), .null)] (G := True) (c' := (137, [some (.ref 39), some (.int x1), some (.int x2), some (.int (x5 + x4)), some (.int x3), none, none], [], M)) (by decide +kernel) rfl trivial ?_
  exact L_R_rank_137 hΦ hrec_25 _ _ _ _ h
set_option maxRecDepth 100000 in
set_option maxHeartbeats 4000000 in
theorem L_R_rank_25 {d : Nat} {Post : Option Value → Mm → Prop} {M : Mm} {rec_25 : Int32 × Int32 × Int32 × Int32 → Prop} {Φ : Int32 → Prop} (hΦ : ∀ r, Φ r → Post (some (.int r)) M) (hrec_25 : ∀ (x1 : Int32) (x2 : Int32) (x3 : Int32) (x4 : Int32), rec_25 (x1, x2, x3, x4) → WP (Ct (d + 1)) 187 Post (25, [some (.ref 39), some (.int x1), some (.int x2), some (.int x3), some (.int x4), none, none], [], M)) : ∀ (x1 : Int32) (x2 : Int32) (x3 : Int32) (x4 : Int32), D_R_rank_25 M Φ rec_25 (x1, x2, x3, x4) → WP (Ct (d + 1)) 187 Post (25, [some (.ref 39), some (.int x1), some (.int x2), some (.int x3), some (.int x4), none, none], [], M) := by
  intro x1 x2 x3 x4 h
  replace h : ((18 ≤ x4 → Φ x3) ∧ (¬ (18 ≤ x4) → S_R_isGear M x4 (fun r6 => ((r6 = 0 → D_R_rank_137 M Φ rec_25 (x1, x2, x3, x4)) ∧ (¬ (r6 = 0) → ((x4 = x1 → D_R_rank_137 M Φ rec_25 (x1, x2, x3, x4)) ∧ (¬ (x4 = x1) → vp_in (8 + (x4 / 6)) 35 ∧ vp_in (17 + (irm x1 6)) 35 ∧ vp_in (8 + (x1 / 6)) 35 ∧ vp_in (17 + (irm x4 6)) 35 ∧ ((x2 = 0 → ((((M 44 (Int32.toNatClampNeg (8 + (x1 / 6)))) * (M 44 (Int32.toNatClampNeg (17 + (irm x4 6))))) ≤ ((M 44 (Int32.toNatClampNeg (8 + (x4 / 6)))) * (M 44 (Int32.toNatClampNeg (17 + (irm x1 6))))) → D_R_rank_135 M Φ rec_25 (x1, x2, x4, 0, x3)) ∧ (¬ (((M 44 (Int32.toNatClampNeg (8 + (x1 / 6)))) * (M 44 (Int32.toNatClampNeg (17 + (irm x4 6))))) ≤ ((M 44 (Int32.toNatClampNeg (8 + (x4 / 6)))) * (M 44 (Int32.toNatClampNeg (17 + (irm x1 6)))))) → D_R_rank_135 M Φ rec_25 (x1, x2, x4, 1, x3)))) ∧ (¬ (x2 = 0) → ((((M 44 (Int32.toNatClampNeg (8 + (x4 / 6)))) * (M 44 (Int32.toNatClampNeg (17 + (irm x1 6))))) = ((M 44 (Int32.toNatClampNeg (8 + (x1 / 6)))) * (M 44 (Int32.toNatClampNeg (17 + (irm x4 6))))) → D_R_rank_135 M Φ rec_25 (x1, x2, x4, 1, x3)) ∧ (¬ (((M 44 (Int32.toNatClampNeg (8 + (x4 / 6)))) * (M 44 (Int32.toNatClampNeg (17 + (irm x1 6))))) = ((M 44 (Int32.toNatClampNeg (8 + (x1 / 6)))) * (M 44 (Int32.toNatClampNeg (17 + (irm x4 6)))))) → D_R_rank_135 M Φ rec_25 (x1, x2, x4, 0, x3)))))))))))) := h
  refine WP.blk [(.iload 4, 2, (0, 0), .null), (.bipush 18, 2, (0, 0), .int 18)] (G := True) (c' := (29, [some (.ref 39), some (.int x1), some (.int x2), some (.int x3), some (.int x4), none, none], [.int 18, .int x4], M)) (by decide +kernel) rfl trivial ?_
  refine WP.br (.if_icmp .ge 114, 3, (143, 0), .null) (by decide +kernel) rfl (fun c5 => ?_) (fun c5 => ?_)
  · replace h := h.1 c5
    refine WP.blk [(.iload_n 3, 1, (0, 0), .null)] (G := True) (c' := (144, [some (.ref 39), some (.int x1), some (.int x2), some (.int x3), some (.int x4), none, none], [.int x3], M)) (by decide +kernel) rfl trivial ?_
    exact WP.ret (.ireturn, 1, (0, 0), .null) (rk := 1) (by decide +kernel) (by decide +kernel) rfl trivial (hΦ _ h)
  · replace h := h.2 c5
    refine WP.blk [(.aload_n 0, 1, (0, 0), .null), (.iload 4, 2, (0, 0), .null)] (G := True) (c' := (35, [some (.ref 39), some (.int x1), some (.int x2), some (.int x3), some (.int x4), none, none], [.int x4, .ref 39], M)) (by decide +kernel) rfl trivial ?_
    refine WP.call (.invokevirtual 182, 3, (178, 2), .retAddr 7) (by decide +kernel) rfl (sp_R_isGear (d := d + 0) h (fun r6 h => ?_))
    show WP (Ct (d + 1)) 187 Post (38, [some (.ref 39), some (.int x1), some (.int x2), some (.int x3), some (.int x4), none, none], [.int r6], M)
    refine WP.br (.ifCond .eq 99, 3, (137, 0), .null) (by decide +kernel) rfl (fun c7 => ?_) (fun c7 => ?_)
    · replace h := h.1 c7
      exact L_R_rank_137 hΦ hrec_25 _ _ _ _ h
    · replace h := h.2 c7
      refine WP.blk [(.iload 4, 2, (0, 0), .null), (.iload_n 1, 1, (0, 0), .null)] (G := True) (c' := (44, [some (.ref 39), some (.int x1), some (.int x2), some (.int x3), some (.int x4), none, none], [.int x1, .int x4], M)) (by decide +kernel) rfl trivial ?_
      refine WP.br (.if_icmp .eq 93, 3, (137, 0), .null) (by decide +kernel) rfl (fun c8 => ?_) (fun c8 => ?_)
      · replace h := h.1 c8
        exact L_R_rank_137 hΦ hrec_25 _ _ _ _ h
      · replace h := h.2 c8
        refine WP.blk [(.aload_n 0, 1, (0, 0), .null), (.getfield 22, 3, (7, 6), .null), (.bipush 8, 2, (0, 0), .int 8), (.iload 4, 2, (0, 0), .null), (.bipush 6, 2, (0, 0), .int 6), (.idiv, 1, (0, 0), .null), (.iadd, 1, (0, 0), .null), (.iaload, 1, (0, 0), .null), (.aload_n 0, 1, (0, 0), .null), (.getfield 22, 3, (7, 6), .null), (.bipush 17, 2, (0, 0), .int 17), (.iload_n 1, 1, (0, 0), .null), (.bipush 6, 2, (0, 0), .int 6), (.irem, 1, (0, 0), .null), (.iadd, 1, (0, 0), .null), (.iaload, 1, (0, 0), .null), (.imul, 1, (0, 0), .null), (.istore 5, 2, (0, 0), .null), (.aload_n 0, 1, (0, 0), .null), (.getfield 22, 3, (7, 6), .null), (.bipush 8, 2, (0, 0), .int 8), (.iload_n 1, 1, (0, 0), .null), (.bipush 6, 2, (0, 0), .int 6), (.idiv, 1, (0, 0), .null), (.iadd, 1, (0, 0), .null), (.iaload, 1, (0, 0), .null), (.aload_n 0, 1, (0, 0), .null), (.getfield 22, 3, (7, 6), .null), (.bipush 17, 2, (0, 0), .int 17), (.iload 4, 2, (0, 0), .null), (.bipush 6, 2, (0, 0), .int 6), (.irem, 1, (0, 0), .null), (.iadd, 1, (0, 0), .null), (.iaload, 1, (0, 0), .null), (.imul, 1, (0, 0), .null), (.istore 6, 2, (0, 0), .null), (.iload_n 3, 1, (0, 0), .null), (.iload_n 2, 1, (0, 0), .null)] (G := ¬ (6 : Int32) = 0 ∧ vp_in (8 + (x4 / 6)) 35 ∧ ¬ (6 : Int32) = 0 ∧ vp_in (17 + (irm x1 6)) 35 ∧ ¬ (6 : Int32) = 0 ∧ vp_in (8 + (x1 / 6)) 35 ∧ ¬ (6 : Int32) = 0 ∧ vp_in (17 + (irm x4 6)) 35 ∧ True) (c' := (105, [some (.ref 39), some (.int x1), some (.int x2), some (.int x3), some (.int x4), some (.int ((M 44 (Int32.toNatClampNeg (8 + (x4 / 6)))) * (M 44 (Int32.toNatClampNeg (17 + (irm x1 6)))))), some (.int ((M 44 (Int32.toNatClampNeg (8 + (x1 / 6)))) * (M 44 (Int32.toNatClampNeg (17 + (irm x4 6))))))], [.int x2, .int x3], M)) (by decide +kernel) rfl ⟨(by decide), h.1, (by decide), h.2.1, (by decide), h.2.2.1, (by decide), h.2.2.2.1, trivial⟩ ?_
        replace h := h.2.2.2.2
        refine WP.br (.ifCond .ne 18, 3, (123, 0), .null) (by decide +kernel) rfl (fun c9 => ?_) (fun c9 => ?_)
        · replace h := h.2 c9
          refine WP.blk [(.iload 5, 2, (0, 0), .null), (.iload 6, 2, (0, 0), .null)] (G := True) (c' := (127, [some (.ref 39), some (.int x1), some (.int x2), some (.int x3), some (.int x4), some (.int ((M 44 (Int32.toNatClampNeg (8 + (x4 / 6)))) * (M 44 (Int32.toNatClampNeg (17 + (irm x1 6)))))), some (.int ((M 44 (Int32.toNatClampNeg (8 + (x1 / 6)))) * (M 44 (Int32.toNatClampNeg (17 + (irm x4 6))))))], [.int ((M 44 (Int32.toNatClampNeg (8 + (x1 / 6)))) * (M 44 (Int32.toNatClampNeg (17 + (irm x4 6))))), .int ((M 44 (Int32.toNatClampNeg (8 + (x4 / 6)))) * (M 44 (Int32.toNatClampNeg (17 + (irm x1 6))))), .int x3], M)) (by decide +kernel) rfl trivial ?_
          refine WP.br (.if_icmp .ne 7, 3, (134, 0), .null) (by decide +kernel) rfl (fun c10 => ?_) (fun c10 => ?_)
          · replace h := h.2 c10
            refine WP.blk [(.iconst 0, 1, (0, 0), .int 0)] (G := True) (c' := (135, [some (.ref 39), some (.int x1), some (.int x2), some (.int x3), some (.int x4), some (.int ((M 44 (Int32.toNatClampNeg (8 + (x4 / 6)))) * (M 44 (Int32.toNatClampNeg (17 + (irm x1 6)))))), some (.int ((M 44 (Int32.toNatClampNeg (8 + (x1 / 6)))) * (M 44 (Int32.toNatClampNeg (17 + (irm x4 6))))))], [.int 0, .int x3], M)) (by decide +kernel) rfl trivial ?_
            refine WP.fgt [some (.ref 39), some (.int x1), some (.int x2), none, some (.int x4), none, none] (by simp [fgt]) ?_
            exact L_R_rank_135 hΦ hrec_25 _ _ _ _ _ h
          · replace h := h.1 (Classical.not_not.mp c10)
            refine WP.blk [(.iconst 1, 1, (0, 0), .int 1), (.goto 4, 3, (135, 0), .null)] (G := True) (c' := (135, [some (.ref 39), some (.int x1), some (.int x2), some (.int x3), some (.int x4), some (.int ((M 44 (Int32.toNatClampNeg (8 + (x4 / 6)))) * (M 44 (Int32.toNatClampNeg (17 + (irm x1 6)))))), some (.int ((M 44 (Int32.toNatClampNeg (8 + (x1 / 6)))) * (M 44 (Int32.toNatClampNeg (17 + (irm x4 6))))))], [.int 1, .int x3], M)) (by decide +kernel) rfl trivial ?_
            refine WP.fgt [some (.ref 39), some (.int x1), some (.int x2), none, some (.int x4), none, none] (by simp [fgt]) ?_
            exact L_R_rank_135 hΦ hrec_25 _ _ _ _ _ h
        · replace h := h.1 (Classical.not_not.mp c9)
          refine WP.blk [(.iload 5, 2, (0, 0), .null), (.iload 6, 2, (0, 0), .null)] (G := True) (c' := (112, [some (.ref 39), some (.int x1), some (.int x2), some (.int x3), some (.int x4), some (.int ((M 44 (Int32.toNatClampNeg (8 + (x4 / 6)))) * (M 44 (Int32.toNatClampNeg (17 + (irm x1 6)))))), some (.int ((M 44 (Int32.toNatClampNeg (8 + (x1 / 6)))) * (M 44 (Int32.toNatClampNeg (17 + (irm x4 6))))))], [.int ((M 44 (Int32.toNatClampNeg (8 + (x1 / 6)))) * (M 44 (Int32.toNatClampNeg (17 + (irm x4 6))))), .int ((M 44 (Int32.toNatClampNeg (8 + (x4 / 6)))) * (M 44 (Int32.toNatClampNeg (17 + (irm x1 6))))), .int x3], M)) (by decide +kernel) rfl trivial ?_
          refine WP.br (.if_icmp .ge 7, 3, (119, 0), .null) (by decide +kernel) rfl (fun c11 => ?_) (fun c11 => ?_)
          · replace h := h.1 c11
            refine WP.blk [(.iconst 0, 1, (0, 0), .int 0), (.goto 15, 3, (135, 0), .null)] (G := True) (c' := (135, [some (.ref 39), some (.int x1), some (.int x2), some (.int x3), some (.int x4), some (.int ((M 44 (Int32.toNatClampNeg (8 + (x4 / 6)))) * (M 44 (Int32.toNatClampNeg (17 + (irm x1 6)))))), some (.int ((M 44 (Int32.toNatClampNeg (8 + (x1 / 6)))) * (M 44 (Int32.toNatClampNeg (17 + (irm x4 6))))))], [.int 0, .int x3], M)) (by decide +kernel) rfl trivial ?_
            refine WP.fgt [some (.ref 39), some (.int x1), some (.int x2), none, some (.int x4), none, none] (by simp [fgt]) ?_
            exact L_R_rank_135 hΦ hrec_25 _ _ _ _ _ h
          · replace h := h.2 c11
            refine WP.blk [(.iconst 1, 1, (0, 0), .int 1), (.goto 19, 3, (135, 0), .null)] (G := True) (c' := (135, [some (.ref 39), some (.int x1), some (.int x2), some (.int x3), some (.int x4), some (.int ((M 44 (Int32.toNatClampNeg (8 + (x4 / 6)))) * (M 44 (Int32.toNatClampNeg (17 + (irm x1 6)))))), some (.int ((M 44 (Int32.toNatClampNeg (8 + (x1 / 6)))) * (M 44 (Int32.toNatClampNeg (17 + (irm x4 6))))))], [.int 1, .int x3], M)) (by decide +kernel) rfl trivial ?_
            refine WP.fgt [some (.ref 39), some (.int x1), some (.int x2), none, some (.int x4), none, none] (by simp [fgt]) ?_
            exact L_R_rank_135 hΦ hrec_25 _ _ _ _ _ h
theorem P_R_rank_25 {d : Nat} {Post : Option Value → Mm → Prop} {M : Mm} {Φ : Int32 → Prop} (hΦ : ∀ r, Φ r → Post (some (.int r)) M) : ∀ (n : Nat) (x1 : Int32) (x2 : Int32) (x3 : Int32) (x4 : Int32), lp (D_R_rank_25 M Φ) n (x1, x2, x3, x4) → WP (Ct (d + 1)) 187 Post (25, [some (.ref 39), some (.int x1), some (.int x2), some (.int x3), some (.int x4), none, none], [], M)
  | 0, x1, x2, x3, x4, h => absurd h (by simp [lp])
  | n + 1, x1, x2, x3, x4, h => L_R_rank_25 hΦ (P_R_rank_25 hΦ n) x1 x2 x3 x4 h
set_option maxRecDepth 100000 in
set_option maxHeartbeats 4000000 in
theorem sp_R_rank {d : Nat} {Post : Option Value → Mm → Prop} {M : Mm} {a1 : Int32} {a2 : Int32} {Φ : Int32 → Prop} (h : S_R_rank M a1 a2 Φ) (hΦ : ∀ r, Φ r → Post (some (.int r)) M) : Ct (d + 2) 187 [.ref 39, .int a1, .int a2] M Post := by
  refine Ct.go (n := 7) (E := [some (.ref 39), some (.int a1), some (.int a2), none, none, none, none]) (by decide +kernel) (by simp [Value.category]) rfl ?_
  refine WP.blk [(.aload_n 0, 1, (0, 0), .null), (.iload_n 1, 1, (0, 0), .null)] (G := True) (c' := (2, [some (.ref 39), some (.int a1), some (.int a2), none, none, none, none], [.int a1, .ref 39], M)) (by decide +kernel) rfl trivial ?_
  refine WP.call (.invokevirtual 182, 3, (178, 2), .retAddr 7) (by decide +kernel) rfl (sp_R_isGear (d := d + 0) h (fun r1 h => ?_))
  show WP (Ct (d + 1)) 187 Post (5, [some (.ref 39), some (.int a1), some (.int a2), none, none, none, none], [.int r1], M)
  refine WP.br (.ifCond .eq 12, 3, (17, 0), .null) (by decide +kernel) rfl (fun c2 => ?_) (fun c2 => ?_)
  · replace h := h.1 c2
    refine WP.blk [(.ldc 61, 2, (0, 0), .int (-1000001))] (G := True) (c' := (19, [some (.ref 39), some (.int a1), some (.int a2), none, none, none, none], [.int (-1000001)], M)) (by decide +kernel) rfl trivial ?_
    exact WP.ret (.ireturn, 1, (0, 0), .null) (rk := 1) (by decide +kernel) (by decide +kernel) rfl trivial (hΦ _ h)
  · replace h := h.2 c2
    refine WP.blk [(.iload_n 2, 1, (0, 0), .null), (.iconst 0, 1, (0, 0), .int 0), (.iconst 1, 1, (0, 0), .int 1)] (G := True) (c' := (11, [some (.ref 39), some (.int a1), some (.int a2), none, none, none, none], [.int 1, .int 0, .int a2], M)) (by decide +kernel) rfl trivial ?_
    refine WP.call (.invokestatic 53, 3, (135, 3), .null) (by decide +kernel) rfl (sp_R_in (d := d + 0) h (fun r3 h => ?_))
    show WP (Ct (d + 1)) 187 Post (14, [some (.ref 39), some (.int a1), some (.int a2), none, none, none, none], [.int r3], M)
    refine WP.br (.ifCond .ne 6, 3, (20, 0), .null) (by decide +kernel) rfl (fun c4 => ?_) (fun c4 => ?_)
    · replace h := h.2 c4
      refine WP.blk [(.iconst 0, 1, (0, 0), .int 0), (.istore_n 3, 1, (0, 0), .null), (.iconst 0, 1, (0, 0), .int 0), (.istore 4, 2, (0, 0), .null)] (G := True) (c' := (25, [some (.ref 39), some (.int a1), some (.int a2), some (.int 0), some (.int 0), none, none], [], M)) (by decide +kernel) rfl trivial ?_
      obtain ⟨n, h⟩ := h
      exact P_R_rank_25 hΦ n _ _ _ _ h
    · replace h := h.1 (Classical.not_not.mp c4)
      refine WP.blk [(.ldc 61, 2, (0, 0), .int (-1000001))] (G := True) (c' := (19, [some (.ref 39), some (.int a1), some (.int a2), none, none, none, none], [.int (-1000001)], M)) (by decide +kernel) rfl trivial ?_
      exact WP.ret (.ireturn, 1, (0, 0), .null) (rk := 1) (by decide +kernel) (by decide +kernel) rfl trivial (hΦ _ h)
/-- GearRoadModel.share(II)I -/
def D_R_share_136 (M : Mm) (Φ : Int32 → Prop) (rec_80 : Int32 × Int32 × Int32 × Int32 × Int32 × Int32 → Prop) : Int32 × Int32 × Int32 × Int32 × Int32 × Int32 × Int32 → Prop
  | (x1, x2, x3, x4, x5, x6, x7) => rec_80 (x1, x2, x3, x4, (x7 + x6), (x5 + 1))
def D_R_share_135 (M : Mm) (Φ : Int32 → Prop) (rec_80 : Int32 × Int32 × Int32 × Int32 × Int32 × Int32 → Prop) : Int32 × Int32 × Int32 × Int32 × Int32 × Int32 → Prop
  | (x1, x2, x3, x4, x5, x6) => D_R_share_136 M Φ rec_80 (x1, x2, x3, x4, x5, 0, x6)
def D_R_share_80 (M : Mm) (Φ : Int32 → Prop) (rec_80 : Int32 × Int32 × Int32 × Int32 × Int32 × Int32 → Prop) : Int32 × Int32 × Int32 × Int32 × Int32 × Int32 → Prop
  | (x1, x2, x3, x4, x5, x6) => (((M 44 (Int32.toNatClampNeg 2)) ≤ x6 → vp_in (29 + x1) 35 ∧ ¬ x3 = 0 ∧ ((x4 ≤ x5 → Φ (((x2 * (M 44 (Int32.toNatClampNeg (29 + x1)))) / x3) + 0)) ∧ (¬ (x4 ≤ x5) → Φ (((x2 * (M 44 (Int32.toNatClampNeg (29 + x1)))) / x3) + 1)))) ∧ (¬ ((M 44 (Int32.toNatClampNeg 2)) ≤ x6) → vp_in (29 + x6) 35 ∧ ¬ x3 = 0 ∧ ((x1 ≤ x6 → D_R_share_135 M Φ rec_80 (x1, x2, x3, (x4 - ((x2 * (M 44 (Int32.toNatClampNeg (29 + x6)))) / x3)), x6, x5)) ∧ (¬ (x1 ≤ x6) → vp_in (29 + x6) 35 ∧ (((M 44 (Int32.toNatClampNeg (29 + x6))) ≤ 0 → D_R_share_135 M Φ rec_80 (x1, x2, x3, (x4 - ((x2 * (M 44 (Int32.toNatClampNeg (29 + x6)))) / x3)), x6, x5)) ∧ (¬ ((M 44 (Int32.toNatClampNeg (29 + x6))) ≤ 0) → D_R_share_136 M Φ rec_80 (x1, x2, x3, (x4 - ((x2 * (M 44 (Int32.toNatClampNeg (29 + x6)))) / x3)), x6, 1, x5)))))))
def D_R_share_27 (M : Mm) (Φ : Int32 → Prop) (rec_27 : Int32 × Int32 × Int32 × Int32 → Prop) : Int32 × Int32 × Int32 × Int32 → Prop
  | (x1, x2, x3, x4) => (((M 44 (Int32.toNatClampNeg 2)) ≤ x4 → vp_in (29 + x1) 35 ∧ (((M 44 (Int32.toNatClampNeg (29 + x1))) = 0 → Φ 0) ∧ (¬ ((M 44 (Int32.toNatClampNeg (29 + x1))) = 0) → ∃ n, lp (D_R_share_80 M Φ) n (x1, x2, x3, x2, 0, 0)))) ∧ (¬ ((M 44 (Int32.toNatClampNeg 2)) ≤ x4) → vp_in (29 + x4) 35 ∧ rec_27 (x1, x2, (x3 + (M 44 (Int32.toNatClampNeg (29 + x4)))), (x4 + 1))))
def S_R_share (M : Mm) (a1 : Int32) (a2 : Int32) (Φ : Int32 → Prop) : Prop := S_R_isCog M a1 (fun r1 => ((r1 = 0 → Φ (-1000001)) ∧ (¬ (r1 = 0) → S_R_in M a2 0 999 (fun r3 => ((r3 = 0 → Φ (-1000001)) ∧ (¬ (r3 = 0) → ∃ n, lp (D_R_share_27 M Φ) n (a1, a2, 0, 0)))))))
set_option maxRecDepth 100000 in
set_option maxHeartbeats 4000000 in
theorem L_R_share_136 {d : Nat} {Post : Option Value → Mm → Prop} {M : Mm} {rec_80 : Int32 × Int32 × Int32 × Int32 × Int32 × Int32 → Prop} {Φ : Int32 → Prop} (hΦ : ∀ r, Φ r → Post (some (.int r)) M) (hrec_80 : ∀ (x1 : Int32) (x2 : Int32) (x3 : Int32) (x4 : Int32) (x5 : Int32) (x6 : Int32), rec_80 (x1, x2, x3, x4, x5, x6) → WP (Ct (d + 2)) 188 Post (80, [some (.ref 39), some (.int x1), some (.int x2), some (.int x3), some (.int x4), some (.int x5), some (.int x6)], [], M)) : ∀ (x1 : Int32) (x2 : Int32) (x3 : Int32) (x4 : Int32) (x5 : Int32) (x6 : Int32) (x7 : Int32), D_R_share_136 M Φ rec_80 (x1, x2, x3, x4, x5, x6, x7) → WP (Ct (d + 2)) 188 Post (136, [some (.ref 39), some (.int x1), some (.int x2), some (.int x3), some (.int x4), none, some (.int x5)], [.int x6, .int x7], M) := by
  intro x1 x2 x3 x4 x5 x6 x7 h
  replace h : rec_80 (x1, x2, x3, x4, (x7 + x6), (x5 + 1)) := h
  refine WP.blk [(.iadd, 1, (0, 0), .null), (.istore 5, 2, (0, 0), .null), (.iinc 6 1, 3, (0, 0), .int 1), (.goto (-62), 3, (80, 0), .null)] (G := True) (c' := (80, [some (.ref 39), some (.int x1), some (.int x2), some (.int x3), some (.int x4), some (.int (x7 + x6)), some (.int (x5 + 1))], [], M)) (by decide +kernel) rfl trivial ?_
  exact hrec_80 _ _ _ _ _ _ h
set_option maxRecDepth 100000 in
set_option maxHeartbeats 4000000 in
theorem L_R_share_135 {d : Nat} {Post : Option Value → Mm → Prop} {M : Mm} {rec_80 : Int32 × Int32 × Int32 × Int32 × Int32 × Int32 → Prop} {Φ : Int32 → Prop} (hΦ : ∀ r, Φ r → Post (some (.int r)) M) (hrec_80 : ∀ (x1 : Int32) (x2 : Int32) (x3 : Int32) (x4 : Int32) (x5 : Int32) (x6 : Int32), rec_80 (x1, x2, x3, x4, x5, x6) → WP (Ct (d + 2)) 188 Post (80, [some (.ref 39), some (.int x1), some (.int x2), some (.int x3), some (.int x4), some (.int x5), some (.int x6)], [], M)) : ∀ (x1 : Int32) (x2 : Int32) (x3 : Int32) (x4 : Int32) (x5 : Int32) (x6 : Int32), D_R_share_135 M Φ rec_80 (x1, x2, x3, x4, x5, x6) → WP (Ct (d + 2)) 188 Post (135, [some (.ref 39), some (.int x1), some (.int x2), some (.int x3), some (.int x4), none, some (.int x5)], [.int x6], M) := by
  intro x1 x2 x3 x4 x5 x6 h
  replace h : D_R_share_136 M Φ rec_80 (x1, x2, x3, x4, x5, 0, x6) := h
  refine WP.blk [(.iconst 0, 1, (0, 0), .int 0)] (G := True) (c' := (136, [some (.ref 39), some (.int x1), some (.int x2), some (.int x3), some (.int x4), none, some (.int x5)], [.int 0, .int x6], M)) (by decide +kernel) rfl trivial ?_
  exact L_R_share_136 hΦ hrec_80 _ _ _ _ _ _ _ h
set_option maxRecDepth 100000 in
set_option maxHeartbeats 4000000 in
theorem L_R_share_80 {d : Nat} {Post : Option Value → Mm → Prop} {M : Mm} {rec_80 : Int32 × Int32 × Int32 × Int32 × Int32 × Int32 → Prop} {Φ : Int32 → Prop} (hΦ : ∀ r, Φ r → Post (some (.int r)) M) (hrec_80 : ∀ (x1 : Int32) (x2 : Int32) (x3 : Int32) (x4 : Int32) (x5 : Int32) (x6 : Int32), rec_80 (x1, x2, x3, x4, x5, x6) → WP (Ct (d + 2)) 188 Post (80, [some (.ref 39), some (.int x1), some (.int x2), some (.int x3), some (.int x4), some (.int x5), some (.int x6)], [], M)) : ∀ (x1 : Int32) (x2 : Int32) (x3 : Int32) (x4 : Int32) (x5 : Int32) (x6 : Int32), D_R_share_80 M Φ rec_80 (x1, x2, x3, x4, x5, x6) → WP (Ct (d + 2)) 188 Post (80, [some (.ref 39), some (.int x1), some (.int x2), some (.int x3), some (.int x4), some (.int x5), some (.int x6)], [], M) := by
  intro x1 x2 x3 x4 x5 x6 h
  replace h : (((M 44 (Int32.toNatClampNeg 2)) ≤ x6 → vp_in (29 + x1) 35 ∧ ¬ x3 = 0 ∧ ((x4 ≤ x5 → Φ (((x2 * (M 44 (Int32.toNatClampNeg (29 + x1)))) / x3) + 0)) ∧ (¬ (x4 ≤ x5) → Φ (((x2 * (M 44 (Int32.toNatClampNeg (29 + x1)))) / x3) + 1)))) ∧ (¬ ((M 44 (Int32.toNatClampNeg 2)) ≤ x6) → vp_in (29 + x6) 35 ∧ ¬ x3 = 0 ∧ ((x1 ≤ x6 → D_R_share_135 M Φ rec_80 (x1, x2, x3, (x4 - ((x2 * (M 44 (Int32.toNatClampNeg (29 + x6)))) / x3)), x6, x5)) ∧ (¬ (x1 ≤ x6) → vp_in (29 + x6) 35 ∧ (((M 44 (Int32.toNatClampNeg (29 + x6))) ≤ 0 → D_R_share_135 M Φ rec_80 (x1, x2, x3, (x4 - ((x2 * (M 44 (Int32.toNatClampNeg (29 + x6)))) / x3)), x6, x5)) ∧ (¬ ((M 44 (Int32.toNatClampNeg (29 + x6))) ≤ 0) → D_R_share_136 M Φ rec_80 (x1, x2, x3, (x4 - ((x2 * (M 44 (Int32.toNatClampNeg (29 + x6)))) / x3)), x6, 1, x5))))))) := h
  refine WP.blk [(.iload 6, 2, (0, 0), .null), (.aload_n 0, 1, (0, 0), .null), (.getfield 22, 3, (7, 6), .null), (.iconst 2, 1, (0, 0), .int 2), (.iaload, 1, (0, 0), .null)] (G := vp_in 2 35 ∧ True) (c' := (88, [some (.ref 39), some (.int x1), some (.int x2), some (.int x3), some (.int x4), some (.int x5), some (.int x6)], [.int (M 44 (Int32.toNatClampNeg 2)), .int x6], M)) (by decide +kernel) rfl ⟨(vp_lit (by decide)), trivial⟩ ?_
  refine WP.br (.if_icmp .ge 57, 3, (145, 0), .null) (by decide +kernel) rfl (fun c7 => ?_) (fun c7 => ?_)
  · replace h := h.1 c7
    refine WP.blk [(.iload_n 2, 1, (0, 0), .null), (.aload_n 0, 1, (0, 0), .null), (.getfield 22, 3, (7, 6), .null), (.bipush 29, 2, (0, 0), .int 29), (.iload_n 1, 1, (0, 0), .null), (.iadd, 1, (0, 0), .null), (.iaload, 1, (0, 0), .null), (.imul, 1, (0, 0), .null), (.iload_n 3, 1, (0, 0), .null), (.idiv, 1, (0, 0), .null), (.iload 5, 2, (0, 0), .null), (.iload 4, 2, (0, 0), .null)] (G := vp_in (29 + x1) 35 ∧ ¬ x3 = 0 ∧ True) (c' := (162, [some (.ref 39), some (.int x1), some (.int x2), some (.int x3), some (.int x4), some (.int x5), some (.int x6)], [.int x4, .int x5, .int ((x2 * (M 44 (Int32.toNatClampNeg (29 + x1)))) / x3)], M)) (by decide +kernel) rfl ⟨h.1, h.2.1, trivial⟩ ?_
    replace h := h.2.2
    refine WP.br (.if_icmp .ge 7, 3, (169, 0), .null) (by decide +kernel) rfl (fun c8 => ?_) (fun c8 => ?_)
    · replace h := h.1 c8
      refine WP.blk [(.iconst 0, 1, (0, 0), .int 0), (.iadd, 1, (0, 0), .null)] (G := True) (c' := (171, [some (.ref 39), some (.int x1), some (.int x2), some (.int x3), some (.int x4), some (.int x5), some (.int x6)], [.int (((x2 * (M 44 (Int32.toNatClampNeg (29 + x1)))) / x3) + 0)], M)) (by decide +kernel) rfl trivial ?_
      exact WP.ret (.ireturn, 1, (0, 0), .null) (rk := 1) (by decide +kernel) (by decide +kernel) rfl trivial (hΦ _ h)
    · replace h := h.2 c8
      refine WP.blk [(.iconst 1, 1, (0, 0), .int 1), (.goto 4, 3, (170, 0), .null), (.iadd, 1, (0, 0), .null)] (G := True) (c' := (171, [some (.ref 39), some (.int x1), some (.int x2), some (.int x3), some (.int x4), some (.int x5), some (.int x6)], [.int (((x2 * (M 44 (Int32.toNatClampNeg (29 + x1)))) / x3) + 1)], M)) (by decide +kernel) rfl trivial ?_
      exact WP.ret (.ireturn, 1, (0, 0), .null) (rk := 1) (by decide +kernel) (by decide +kernel) rfl trivial (hΦ _ h)
  · replace h := h.2 c7
    refine WP.blk [(.iload 4, 2, (0, 0), .null), (.iload_n 2, 1, (0, 0), .null), (.aload_n 0, 1, (0, 0), .null), (.getfield 22, 3, (7, 6), .null), (.bipush 29, 2, (0, 0), .int 29), (.iload 6, 2, (0, 0), .null), (.iadd, 1, (0, 0), .null), (.iaload, 1, (0, 0), .null), (.imul, 1, (0, 0), .null), (.iload_n 3, 1, (0, 0), .null), (.idiv, 1, (0, 0), .null), (.isub, 1, (0, 0), .null), (.istore 4, 2, (0, 0), .null), (.iload 5, 2, (0, 0), .null), (.iload 6, 2, (0, 0), .null), (.iload_n 1, 1, (0, 0), .null)] (G := vp_in (29 + x6) 35 ∧ ¬ x3 = 0 ∧ True) (c' := (115, [some (.ref 39), some (.int x1), some (.int x2), some (.int x3), some (.int (x4 - ((x2 * (M 44 (Int32.toNatClampNeg (29 + x6)))) / x3))), some (.int x5), some (.int x6)], [.int x1, .int x6, .int x5], M)) (by decide +kernel) rfl ⟨h.1, h.2.1, trivial⟩ ?_
    replace h := h.2.2
    refine WP.br (.if_icmp .ge 20, 3, (135, 0), .null) (by decide +kernel) rfl (fun c9 => ?_) (fun c9 => ?_)
    · replace h := h.1 c9
      refine WP.fgt [some (.ref 39), some (.int x1), some (.int x2), some (.int x3), some (.int (x4 - ((x2 * (M 44 (Int32.toNatClampNeg (29 + x6)))) / x3))), none, some (.int x6)] (by simp [fgt]) ?_
      exact L_R_share_135 hΦ hrec_80 _ _ _ _ _ _ h
    · replace h := h.2 c9
      refine WP.blk [(.aload_n 0, 1, (0, 0), .null), (.getfield 22, 3, (7, 6), .null), (.bipush 29, 2, (0, 0), .int 29), (.iload 6, 2, (0, 0), .null), (.iadd, 1, (0, 0), .null), (.iaload, 1, (0, 0), .null)] (G := vp_in (29 + x6) 35 ∧ True) (c' := (128, [some (.ref 39), some (.int x1), some (.int x2), some (.int x3), some (.int (x4 - ((x2 * (M 44 (Int32.toNatClampNeg (29 + x6)))) / x3))), some (.int x5), some (.int x6)], [.int (M 44 (Int32.toNatClampNeg (29 + x6))), .int x5], M)) (by decide +kernel) rfl ⟨h.1, trivial⟩ ?_
      replace h := h.2
      refine WP.br (.ifCond .le 7, 3, (135, 0), .null) (by decide +kernel) rfl (fun c10 => ?_) (fun c10 => ?_)
      · replace h := h.1 c10
        refine WP.fgt [some (.ref 39), some (.int x1), some (.int x2), some (.int x3), some (.int (x4 - ((x2 * (M 44 (Int32.toNatClampNeg (29 + x6)))) / x3))), none, some (.int x6)] (by simp [fgt]) ?_
        exact L_R_share_135 hΦ hrec_80 _ _ _ _ _ _ h
      · replace h := h.2 c10
        refine WP.blk [(.iconst 1, 1, (0, 0), .int 1), (.goto 4, 3, (136, 0), .null)] (G := True) (c' := (136, [some (.ref 39), some (.int x1), some (.int x2), some (.int x3), some (.int (x4 - ((x2 * (M 44 (Int32.toNatClampNeg (29 + x6)))) / x3))), some (.int x5), some (.int x6)], [.int 1, .int x5], M)) (by decide +kernel) rfl trivial ?_
        refine WP.fgt [some (.ref 39), some (.int x1), some (.int x2), some (.int x3), some (.int (x4 - ((x2 * (M 44 (Int32.toNatClampNeg (29 + x6)))) / x3))), none, some (.int x6)] (by simp [fgt]) ?_
        exact L_R_share_136 hΦ hrec_80 _ _ _ _ _ _ _ h
theorem P_R_share_80 {d : Nat} {Post : Option Value → Mm → Prop} {M : Mm} {Φ : Int32 → Prop} (hΦ : ∀ r, Φ r → Post (some (.int r)) M) : ∀ (n : Nat) (x1 : Int32) (x2 : Int32) (x3 : Int32) (x4 : Int32) (x5 : Int32) (x6 : Int32), lp (D_R_share_80 M Φ) n (x1, x2, x3, x4, x5, x6) → WP (Ct (d + 2)) 188 Post (80, [some (.ref 39), some (.int x1), some (.int x2), some (.int x3), some (.int x4), some (.int x5), some (.int x6)], [], M)
  | 0, x1, x2, x3, x4, x5, x6, h => absurd h (by simp [lp])
  | n + 1, x1, x2, x3, x4, x5, x6, h => L_R_share_80 hΦ (P_R_share_80 hΦ n) x1 x2 x3 x4 x5 x6 h
set_option maxRecDepth 100000 in
set_option maxHeartbeats 4000000 in
theorem L_R_share_27 {d : Nat} {Post : Option Value → Mm → Prop} {M : Mm} {rec_27 : Int32 × Int32 × Int32 × Int32 → Prop} {Φ : Int32 → Prop} (hΦ : ∀ r, Φ r → Post (some (.int r)) M) (hrec_27 : ∀ (x1 : Int32) (x2 : Int32) (x3 : Int32) (x4 : Int32), rec_27 (x1, x2, x3, x4) → WP (Ct (d + 2)) 188 Post (27, [some (.ref 39), some (.int x1), some (.int x2), some (.int x3), some (.int x4), none, none], [], M)) : ∀ (x1 : Int32) (x2 : Int32) (x3 : Int32) (x4 : Int32), D_R_share_27 M Φ rec_27 (x1, x2, x3, x4) → WP (Ct (d + 2)) 188 Post (27, [some (.ref 39), some (.int x1), some (.int x2), some (.int x3), some (.int x4), none, none], [], M) := by
  intro x1 x2 x3 x4 h
  replace h : (((M 44 (Int32.toNatClampNeg 2)) ≤ x4 → vp_in (29 + x1) 35 ∧ (((M 44 (Int32.toNatClampNeg (29 + x1))) = 0 → Φ 0) ∧ (¬ ((M 44 (Int32.toNatClampNeg (29 + x1))) = 0) → ∃ n, lp (D_R_share_80 M Φ) n (x1, x2, x3, x2, 0, 0)))) ∧ (¬ ((M 44 (Int32.toNatClampNeg 2)) ≤ x4) → vp_in (29 + x4) 35 ∧ rec_27 (x1, x2, (x3 + (M 44 (Int32.toNatClampNeg (29 + x4)))), (x4 + 1)))) := h
  refine WP.blk [(.iload 4, 2, (0, 0), .null), (.aload_n 0, 1, (0, 0), .null), (.getfield 22, 3, (7, 6), .null), (.iconst 2, 1, (0, 0), .int 2), (.iaload, 1, (0, 0), .null)] (G := vp_in 2 35 ∧ True) (c' := (35, [some (.ref 39), some (.int x1), some (.int x2), some (.int x3), some (.int x4), none, none], [.int (M 44 (Int32.toNatClampNeg 2)), .int x4], M)) (by decide +kernel) rfl ⟨(vp_lit (by decide)), trivial⟩ ?_
  refine WP.br (.if_icmp .ge 22, 3, (57, 0), .null) (by decide +kernel) rfl (fun c5 => ?_) (fun c5 => ?_)
  · replace h := h.1 c5
    refine WP.blk [(.aload_n 0, 1, (0, 0), .null), (.getfield 22, 3, (7, 6), .null), (.bipush 29, 2, (0, 0), .int 29), (.iload_n 1, 1, (0, 0), .null), (.iadd, 1, (0, 0), .null), (.iaload, 1, (0, 0), .null)] (G := vp_in (29 + x1) 35 ∧ True) (c' := (66, [some (.ref 39), some (.int x1), some (.int x2), some (.int x3), some (.int x4), none, none], [.int (M 44 (Int32.toNatClampNeg (29 + x1)))], M)) (by decide +kernel) rfl ⟨h.1, trivial⟩ ?_
    replace h := h.2
    refine WP.br (.ifCond .ne 5, 3, (71, 0), .null) (by decide +kernel) rfl (fun c6 => ?_) (fun c6 => ?_)
    · replace h := h.2 c6
      refine WP.blk [(.iload_n 2, 1, (0, 0), .null), (.istore 4, 2, (0, 0), .null), (.iconst 0, 1, (0, 0), .int 0), (.istore 5, 2, (0, 0), .null), (.iconst 0, 1, (0, 0), .int 0), (.istore 6, 2, (0, 0), .null)] (G := True) (c' := (80, [some (.ref 39), some (.int x1), some (.int x2), some (.int x3), some (.int x2), some (.int 0), some (.int 0)], [], M)) (by decide +kernel) rfl trivial ?_
      obtain ⟨n, h⟩ := h
      exact P_R_share_80 hΦ n _ _ _ _ _ _ h
    · replace h := h.1 (Classical.not_not.mp c6)
      refine WP.blk [(.iconst 0, 1, (0, 0), .int 0)] (G := True) (c' := (70, [some (.ref 39), some (.int x1), some (.int x2), some (.int x3), some (.int x4), none, none], [.int 0], M)) (by decide +kernel) rfl trivial ?_
      exact WP.ret (.ireturn, 1, (0, 0), .null) (rk := 1) (by decide +kernel) (by decide +kernel) rfl trivial (hΦ _ h)
  · replace h := h.2 c5
    refine WP.blk [(.iload_n 3, 1, (0, 0), .null), (.aload_n 0, 1, (0, 0), .null), (.getfield 22, 3, (7, 6), .null), (.bipush 29, 2, (0, 0), .int 29), (.iload 4, 2, (0, 0), .null), (.iadd, 1, (0, 0), .null), (.iaload, 1, (0, 0), .null), (.iadd, 1, (0, 0), .null), (.istore_n 3, 1, (0, 0), .null), (.iinc 4 1, 3, (0, 0), .int 1), (.goto (-27), 3, (27, 0), .null)] (G := vp_in (29 + x4) 35 ∧ True) (c' := (27, [some (.ref 39), some (.int x1), some (.int x2), some (.int (x3 + (M 44 (Int32.toNatClampNeg (29 + x4))))), some (.int (x4 + 1)), none, none], [], M)) (by decide +kernel) rfl ⟨h.1, trivial⟩ ?_
    replace h := h.2
    exact hrec_27 _ _ _ _ h
theorem P_R_share_27 {d : Nat} {Post : Option Value → Mm → Prop} {M : Mm} {Φ : Int32 → Prop} (hΦ : ∀ r, Φ r → Post (some (.int r)) M) : ∀ (n : Nat) (x1 : Int32) (x2 : Int32) (x3 : Int32) (x4 : Int32), lp (D_R_share_27 M Φ) n (x1, x2, x3, x4) → WP (Ct (d + 2)) 188 Post (27, [some (.ref 39), some (.int x1), some (.int x2), some (.int x3), some (.int x4), none, none], [], M)
  | 0, x1, x2, x3, x4, h => absurd h (by simp [lp])
  | n + 1, x1, x2, x3, x4, h => L_R_share_27 hΦ (P_R_share_27 hΦ n) x1 x2 x3 x4 h
set_option maxRecDepth 100000 in
set_option maxHeartbeats 4000000 in
theorem sp_R_share {d : Nat} {Post : Option Value → Mm → Prop} {M : Mm} {a1 : Int32} {a2 : Int32} {Φ : Int32 → Prop} (h : S_R_share M a1 a2 Φ) (hΦ : ∀ r, Φ r → Post (some (.int r)) M) : Ct (d + 3) 188 [.ref 39, .int a1, .int a2] M Post := by
  refine Ct.go (n := 7) (E := [some (.ref 39), some (.int a1), some (.int a2), none, none, none, none]) (by decide +kernel) (by simp [Value.category]) rfl ?_
  refine WP.blk [(.aload_n 0, 1, (0, 0), .null), (.iload_n 1, 1, (0, 0), .null)] (G := True) (c' := (2, [some (.ref 39), some (.int a1), some (.int a2), none, none, none, none], [.int a1, .ref 39], M)) (by decide +kernel) rfl trivial ?_
  refine WP.call (.invokevirtual 166, 3, (165, 2), .retAddr 7) (by decide +kernel) rfl (sp_R_isCog (d := d + 0) h (fun r1 h => ?_))
  show WP (Ct (d + 2)) 188 Post (5, [some (.ref 39), some (.int a1), some (.int a2), none, none, none, none], [.int r1], M)
  refine WP.br (.ifCond .eq 14, 3, (19, 0), .null) (by decide +kernel) rfl (fun c2 => ?_) (fun c2 => ?_)
  · replace h := h.1 c2
    refine WP.blk [(.ldc 61, 2, (0, 0), .int (-1000001))] (G := True) (c' := (21, [some (.ref 39), some (.int a1), some (.int a2), none, none, none, none], [.int (-1000001)], M)) (by decide +kernel) rfl trivial ?_
    exact WP.ret (.ireturn, 1, (0, 0), .null) (rk := 1) (by decide +kernel) (by decide +kernel) rfl trivial (hΦ _ h)
  · replace h := h.2 c2
    refine WP.blk [(.iload_n 2, 1, (0, 0), .null), (.iconst 0, 1, (0, 0), .int 0), (.sipush 999, 3, (0, 0), .int 999)] (G := True) (c' := (13, [some (.ref 39), some (.int a1), some (.int a2), none, none, none, none], [.int 999, .int 0, .int a2], M)) (by decide +kernel) rfl trivial ?_
    refine WP.call (.invokestatic 53, 3, (135, 3), .null) (by decide +kernel) rfl (sp_R_in (d := d + 1) h (fun r3 h => ?_))
    show WP (Ct (d + 2)) 188 Post (16, [some (.ref 39), some (.int a1), some (.int a2), none, none, none, none], [.int r3], M)
    refine WP.br (.ifCond .ne 6, 3, (22, 0), .null) (by decide +kernel) rfl (fun c4 => ?_) (fun c4 => ?_)
    · replace h := h.2 c4
      refine WP.blk [(.iconst 0, 1, (0, 0), .int 0), (.istore_n 3, 1, (0, 0), .null), (.iconst 0, 1, (0, 0), .int 0), (.istore 4, 2, (0, 0), .null)] (G := True) (c' := (27, [some (.ref 39), some (.int a1), some (.int a2), some (.int 0), some (.int 0), none, none], [], M)) (by decide +kernel) rfl trivial ?_
      obtain ⟨n, h⟩ := h
      exact P_R_share_27 hΦ n _ _ _ _ h
    · replace h := h.1 (Classical.not_not.mp c4)
      refine WP.blk [(.ldc 61, 2, (0, 0), .int (-1000001))] (G := True) (c' := (21, [some (.ref 39), some (.int a1), some (.int a2), none, none, none, none], [.int (-1000001)], M)) (by decide +kernel) rfl trivial ?_
      exact WP.ret (.ireturn, 1, (0, 0), .null) (rk := 1) (by decide +kernel) (by decide +kernel) rfl trivial (hΦ _ h)
/-- GearRoadModel.take()V -/
def D_R_take_2 (Φ : Mm → Prop) (rec_2 : Int32 × Mm → Prop) : Int32 × Mm → Prop
  | (x1, M) => ((35 ≤ x1 → Φ M) ∧ (¬ (35 ≤ x1) → vp_in x1 35 ∧ vp_in x1 35 ∧ (∀ M3, M3 = mu M 45 (Int32.toNatClampNeg x1) (M 44 (Int32.toNatClampNeg x1)) → rec_2 ((x1 + 1), M3))))
def S_R_take (M : Mm) (Φ : Mm → Prop) : Prop := ∃ n, lp (D_R_take_2 Φ) n (0, M)
set_option maxRecDepth 100000 in
set_option maxHeartbeats 4000000 in
theorem L_R_take_2 {d : Nat} {Post : Option Value → Mm → Prop} {rec_2 : Int32 × Mm → Prop} {Φ : Mm → Prop} (hΦ : ∀ M1, Φ M1 → Post none M1) (hrec_2 : ∀ (x1 : Int32) (M : Mm), rec_2 (x1, M) → WP (Ct (d + 0)) 190 Post (2, [some (.ref 39), some (.int x1)], [], M)) : ∀ (x1 : Int32) (M : Mm), D_R_take_2 Φ rec_2 (x1, M) → WP (Ct (d + 0)) 190 Post (2, [some (.ref 39), some (.int x1)], [], M) := by
  intro x1 M h
  replace h : ((35 ≤ x1 → Φ M) ∧ (¬ (35 ≤ x1) → vp_in x1 35 ∧ vp_in x1 35 ∧ (∀ M3, M3 = mu M 45 (Int32.toNatClampNeg x1) (M 44 (Int32.toNatClampNeg x1)) → rec_2 ((x1 + 1), M3)))) := h
  refine WP.blk [(.iload_n 1, 1, (0, 0), .null), (.bipush 35, 2, (0, 0), .int 35)] (G := True) (c' := (5, [some (.ref 39), some (.int x1)], [.int 35, .int x1], M)) (by decide +kernel) rfl trivial ?_
  refine WP.br (.if_icmp .ge 21, 3, (26, 0), .null) (by decide +kernel) rfl (fun c2 => ?_) (fun c2 => ?_)
  · replace h := h.1 c2
    exact WP.ret (.return_, 1, (0, 0), .null) (rk := 0) (by decide +kernel) (by decide +kernel) rfl trivial (hΦ _ h)
  · replace h := h.2 c2
    refine WP.blk [(.aload_n 0, 1, (0, 0), .null), (.getfield 25, 3, (7, 7), .null), (.iload_n 1, 1, (0, 0), .null), (.aload_n 0, 1, (0, 0), .null), (.getfield 22, 3, (7, 6), .null), (.iload_n 1, 1, (0, 0), .null), (.iaload, 1, (0, 0), .null), (.iastore, 1, (0, 0), .null)] (G := vp_in x1 35 ∧ vp_in x1 35 ∧ True) (c' := (20, [some (.ref 39), some (.int x1)], [], (mu M 45 (Int32.toNatClampNeg x1) (M 44 (Int32.toNatClampNeg x1))))) (by decide +kernel) rfl ⟨h.1, h.2.1, trivial⟩ ?_
    replace h := h.2.2
    replace h := h (mu M 45 (Int32.toNatClampNeg x1) (M 44 (Int32.toNatClampNeg x1))) rfl
    generalize (mu M 45 (Int32.toNatClampNeg x1) (M 44 (Int32.toNatClampNeg x1))) = M3 at h ⊢
    refine WP.blk [(.iinc 1 1, 3, (0, 0), .int 1), (.goto (-21), 3, (2, 0), .null)] (G := True) (c' := (2, [some (.ref 39), some (.int (x1 + 1))], [], M3)) (by decide +kernel) rfl trivial ?_
    exact hrec_2 _ _ h
theorem P_R_take_2 {d : Nat} {Post : Option Value → Mm → Prop} {Φ : Mm → Prop} (hΦ : ∀ M1, Φ M1 → Post none M1) : ∀ (n : Nat) (x1 : Int32) (M : Mm), lp (D_R_take_2 Φ) n (x1, M) → WP (Ct (d + 0)) 190 Post (2, [some (.ref 39), some (.int x1)], [], M)
  | 0, x1, M, h => absurd h (by simp [lp])
  | n + 1, x1, M, h => L_R_take_2 hΦ (P_R_take_2 hΦ n) x1 M h
set_option maxRecDepth 100000 in
set_option maxHeartbeats 4000000 in
theorem sp_R_take {d : Nat} {Post : Option Value → Mm → Prop} {M : Mm} {Φ : Mm → Prop} (h : S_R_take M Φ) (hΦ : ∀ M1, Φ M1 → Post none M1) : Ct (d + 1) 190 [.ref 39] M Post := by
  refine Ct.go (n := 2) (E := [some (.ref 39), none]) (by decide +kernel) (by simp [Value.category]) rfl ?_
  refine WP.blk [(.iconst 0, 1, (0, 0), .int 0), (.istore_n 1, 1, (0, 0), .null)] (G := True) (c' := (2, [some (.ref 39), some (.int 0)], [], M)) (by decide +kernel) rfl trivial ?_
  obtain ⟨n, h⟩ := h
  exact P_R_take_2 hΦ n _ _ h
/-- GearRoadModel.isSo(III)Z -/
def D_R_isSo_103 (M : Mm) (Φ : Int32 → Prop) (rec_6 : Int32 × Int32 × Int32 × Int32 × Int32 → Prop) : Int32 × Int32 × Int32 × Int32 × Int32 → Prop
  | (x1, x2, x3, x4, x5) => rec_6 (x1, x2, x3, x5, (x4 + 1))
def D_R_isSo_102 (M : Mm) (Φ : Int32 → Prop) (rec_6 : Int32 × Int32 × Int32 × Int32 × Int32 → Prop) : Int32 × Int32 × Int32 × Int32 → Prop
  | (x1, x2, x3, x4) => D_R_isSo_103 M Φ rec_6 (x1, x2, x3, x4, 0)
def D_R_isSo_72 (M : Mm) (Φ : Int32 → Prop) (rec_6 : Int32 × Int32 × Int32 × Int32 × Int32 → Prop) : Int32 × Int32 × Int32 × Int32 × Int32 × Int32 → Prop
  | (x1, x2, x3, x4, x5, x6) => ((x4 = 0 → D_R_isSo_102 M Φ rec_6 (x1, x2, x3, x5)) ∧ (¬ (x4 = 0) → vp_in (((40 * x1) + x2) + x5) 320 ∧ (((M 42 (Int32.toNatClampNeg (((40 * x1) + x2) + x5))) = x6 → D_R_isSo_103 M Φ rec_6 (x1, x2, x3, x5, 1)) ∧ (¬ ((M 42 (Int32.toNatClampNeg (((40 * x1) + x2) + x5))) = x6) → D_R_isSo_102 M Φ rec_6 (x1, x2, x3, x5)))))
def D_R_isSo_71 (M : Mm) (Φ : Int32 → Prop) (rec_6 : Int32 × Int32 × Int32 × Int32 × Int32 → Prop) : Int32 × Int32 × Int32 × Int32 × Int32 → Prop
  | (x1, x2, x3, x4, x5) => D_R_isSo_72 M Φ rec_6 (x1, x2, x3, x4, x5, 0)
def D_R_isSo_6 (M : Mm) (Φ : Int32 → Prop) (rec_6 : Int32 × Int32 × Int32 × Int32 × Int32 → Prop) : Int32 × Int32 × Int32 × Int32 × Int32 → Prop
  | (x1, x2, x3, x4, x5) => ((x3 ≤ x5 → ((x4 = 0 ∨ x4 = 1) ∧ Φ x4)) ∧ (¬ (x3 ≤ x5) → (((M 45 (Int32.toNatClampNeg 3)) ≤ ((M 45 (Int32.toNatClampNeg 6)) + x5) → D_R_isSo_71 M Φ rec_6 (x1, x2, x3, x4, x5)) ∧ (¬ ((M 45 (Int32.toNatClampNeg 3)) ≤ ((M 45 (Int32.toNatClampNeg 6)) + x5)) → S_R_gearOf 45 M (fun r8 => S_R_bears 45 M r8 ((M 45 (Int32.toNatClampNeg 6)) + x5) (fun r9 => ((r9 = 0 → D_R_isSo_71 M Φ rec_6 (x1, x2, x3, x4, x5)) ∧ (¬ (r9 = 0) → S_R_gearOf 45 M (fun r11 => S_R_turnsOf 45 M r11 (fun r12 => D_R_isSo_72 M Φ rec_6 (x1, x2, x3, x4, x5, r12)))))))))))
def S_R_isSo (M : Mm) (a1 : Int32) (a2 : Int32) (a3 : Int32) (Φ : Int32 → Prop) : Prop := ∃ n, lp (D_R_isSo_6 M Φ) n (a1, a2, a3, 1, 0)
set_option maxRecDepth 100000 in
set_option maxHeartbeats 4000000 in
theorem L_R_isSo_103 {d : Nat} {Post : Option Value → Mm → Prop} {M : Mm} {rec_6 : Int32 × Int32 × Int32 × Int32 × Int32 → Prop} {Φ : Int32 → Prop} (hΦ : ∀ r, Φ r → Post (some (.int r)) M) (hrec_6 : ∀ (x1 : Int32) (x2 : Int32) (x3 : Int32) (x4 : Int32) (x5 : Int32), rec_6 (x1, x2, x3, x4, x5) → WP (Ct (d + 2)) 191 Post (6, [some (.ref 39), some (.int x1), some (.int x2), some (.int x3), some (.int x4), some (.int x5), none, none], [], M)) : ∀ (x1 : Int32) (x2 : Int32) (x3 : Int32) (x4 : Int32) (x5 : Int32), D_R_isSo_103 M Φ rec_6 (x1, x2, x3, x4, x5) → WP (Ct (d + 2)) 191 Post (103, [some (.ref 39), some (.int x1), some (.int x2), some (.int x3), none, some (.int x4), none, none], [.int x5], M) := by
  intro x1 x2 x3 x4 x5 h
  replace h : rec_6 (x1, x2, x3, x5, (x4 + 1)) := h
  refine WP.blk [(.istore 4, 2, (0, 0), .null), (.iinc 5 1, 3, (0, 0), .int 1), (.goto (-102), 3, (6, 0), .null)] (G := True) (c' := (6, [some (.ref 39), some (.int x1), some (.int x2), some (.int x3), some (.int x5), some (.int (x4 + 1)), none, none], [], M)) (by decide +kernel) rfl trivial ?_
  exact hrec_6 _ _ _ _ _ h
set_option maxRecDepth 100000 in
set_option maxHeartbeats 4000000 in
theorem L_R_isSo_102 {d : Nat} {Post : Option Value → Mm → Prop} {M : Mm} {rec_6 : Int32 × Int32 × Int32 × Int32 × Int32 → Prop} {Φ : Int32 → Prop} (hΦ : ∀ r, Φ r → Post (some (.int r)) M) (hrec_6 : ∀ (x1 : Int32) (x2 : Int32) (x3 : Int32) (x4 : Int32) (x5 : Int32), rec_6 (x1, x2, x3, x4, x5) → WP (Ct (d + 2)) 191 Post (6, [some (.ref 39), some (.int x1), some (.int x2), some (.int x3), some (.int x4), some (.int x5), none, none], [], M)) : ∀ (x1 : Int32) (x2 : Int32) (x3 : Int32) (x4 : Int32), D_R_isSo_102 M Φ rec_6 (x1, x2, x3, x4) → WP (Ct (d + 2)) 191 Post (102, [some (.ref 39), some (.int x1), some (.int x2), some (.int x3), none, some (.int x4), none, none], [], M) := by
  intro x1 x2 x3 x4 h
  replace h : D_R_isSo_103 M Φ rec_6 (x1, x2, x3, x4, 0) := h
  refine WP.blk [(.iconst 0, 1, (0, 0), .int 0)] (G := True) (c' := (103, [some (.ref 39), some (.int x1), some (.int x2), some (.int x3), none, some (.int x4), none, none], [.int 0], M)) (by decide +kernel) rfl trivial ?_
  exact L_R_isSo_103 hΦ hrec_6 _ _ _ _ _ h
set_option maxRecDepth 100000 in
set_option maxHeartbeats 4000000 in
theorem L_R_isSo_72 {d : Nat} {Post : Option Value → Mm → Prop} {M : Mm} {rec_6 : Int32 × Int32 × Int32 × Int32 × Int32 → Prop} {Φ : Int32 → Prop} (hΦ : ∀ r, Φ r → Post (some (.int r)) M) (hrec_6 : ∀ (x1 : Int32) (x2 : Int32) (x3 : Int32) (x4 : Int32) (x5 : Int32), rec_6 (x1, x2, x3, x4, x5) → WP (Ct (d + 2)) 191 Post (6, [some (.ref 39), some (.int x1), some (.int x2), some (.int x3), some (.int x4), some (.int x5), none, none], [], M)) : ∀ (x1 : Int32) (x2 : Int32) (x3 : Int32) (x4 : Int32) (x5 : Int32) (x6 : Int32), D_R_isSo_72 M Φ rec_6 (x1, x2, x3, x4, x5, x6) → WP (Ct (d + 2)) 191 Post (72, [some (.ref 39), some (.int x1), some (.int x2), some (.int x3), some (.int x4), some (.int x5), none, none], [.int x6], M) := by
  intro x1 x2 x3 x4 x5 x6 h
  replace h : ((x4 = 0 → D_R_isSo_102 M Φ rec_6 (x1, x2, x3, x5)) ∧ (¬ (x4 = 0) → vp_in (((40 * x1) + x2) + x5) 320 ∧ (((M 42 (Int32.toNatClampNeg (((40 * x1) + x2) + x5))) = x6 → D_R_isSo_103 M Φ rec_6 (x1, x2, x3, x5, 1)) ∧ (¬ ((M 42 (Int32.toNatClampNeg (((40 * x1) + x2) + x5))) = x6) → D_R_isSo_102 M Φ rec_6 (x1, x2, x3, x5))))) := h
  refine WP.blk [(.istore 7, 2, (0, 0), .null), (.iload 4, 2, (0, 0), .null)] (G := True) (c' := (76, [some (.ref 39), some (.int x1), some (.int x2), some (.int x3), some (.int x4), some (.int x5), none, some (.int x6)], [.int x4], M)) (by decide +kernel) rfl trivial ?_
  refine WP.br (.ifCond .eq 26, 3, (102, 0), .null) (by decide +kernel) rfl (fun c7 => ?_) (fun c7 => ?_)
  · replace h := h.1 c7
    refine WP.fgt [some (.ref 39), some (.int x1), some (.int x2), some (.int x3), none, some (.int x5), none, none] (by simp [fgt]) ?_
    exact L_R_isSo_102 hΦ hrec_6 _ _ _ _ h
  · replace h := h.2 c7
    refine WP.blk [(.aload_n 0, 1, (0, 0), .null), (.getfield 16, 3, (7, 2), .null), (.bipush 40, 2, (0, 0), .int 40), (.iload_n 1, 1, (0, 0), .null), (.imul, 1, (0, 0), .null), (.iload_n 2, 1, (0, 0), .null), (.iadd, 1, (0, 0), .null), (.iload 5, 2, (0, 0), .null), (.iadd, 1, (0, 0), .null), (.iaload, 1, (0, 0), .null), (.iload 7, 2, (0, 0), .null)] (G := vp_in (((40 * x1) + x2) + x5) 320 ∧ True) (c' := (95, [some (.ref 39), some (.int x1), some (.int x2), some (.int x3), some (.int x4), some (.int x5), none, some (.int x6)], [.int x6, .int (M 42 (Int32.toNatClampNeg (((40 * x1) + x2) + x5)))], M)) (by decide +kernel) rfl ⟨h.1, trivial⟩ ?_
    replace h := h.2
    refine WP.br (.if_icmp .ne 7, 3, (102, 0), .null) (by decide +kernel) rfl (fun c8 => ?_) (fun c8 => ?_)
    · replace h := h.2 c8
      refine WP.fgt [some (.ref 39), some (.int x1), some (.int x2), some (.int x3), none, some (.int x5), none, none] (by simp [fgt]) ?_
      exact L_R_isSo_102 hΦ hrec_6 _ _ _ _ h
    · replace h := h.1 (Classical.not_not.mp c8)
      refine WP.blk [(.iconst 1, 1, (0, 0), .int 1), (.goto 4, 3, (103, 0), .null)] (G := True) (c' := (103, [some (.ref 39), some (.int x1), some (.int x2), some (.int x3), some (.int x4), some (.int x5), none, some (.int x6)], [.int 1], M)) (by decide +kernel) rfl trivial ?_
      refine WP.fgt [some (.ref 39), some (.int x1), some (.int x2), some (.int x3), none, some (.int x5), none, none] (by simp [fgt]) ?_
      exact L_R_isSo_103 hΦ hrec_6 _ _ _ _ _ h
set_option maxRecDepth 100000 in
set_option maxHeartbeats 4000000 in
theorem L_R_isSo_71 {d : Nat} {Post : Option Value → Mm → Prop} {M : Mm} {rec_6 : Int32 × Int32 × Int32 × Int32 × Int32 → Prop} {Φ : Int32 → Prop} (hΦ : ∀ r, Φ r → Post (some (.int r)) M) (hrec_6 : ∀ (x1 : Int32) (x2 : Int32) (x3 : Int32) (x4 : Int32) (x5 : Int32), rec_6 (x1, x2, x3, x4, x5) → WP (Ct (d + 2)) 191 Post (6, [some (.ref 39), some (.int x1), some (.int x2), some (.int x3), some (.int x4), some (.int x5), none, none], [], M)) : ∀ (x1 : Int32) (x2 : Int32) (x3 : Int32) (x4 : Int32) (x5 : Int32), D_R_isSo_71 M Φ rec_6 (x1, x2, x3, x4, x5) → WP (Ct (d + 2)) 191 Post (71, [some (.ref 39), some (.int x1), some (.int x2), some (.int x3), some (.int x4), some (.int x5), none, none], [], M) := by
  intro x1 x2 x3 x4 x5 h
  replace h : D_R_isSo_72 M Φ rec_6 (x1, x2, x3, x4, x5, 0) := h
  refine WP.blk [(.iconst 0, 1, (0, 0), .int 0)] (G := True) (c' := (72, [some (.ref 39), some (.int x1), some (.int x2), some (.int x3), some (.int x4), some (.int x5), none, none], [.int 0], M)) (by decide +kernel) rfl trivial ?_
  exact L_R_isSo_72 hΦ hrec_6 _ _ _ _ _ _ h
set_option maxRecDepth 100000 in
set_option maxHeartbeats 4000000 in
theorem L_R_isSo_6 {d : Nat} {Post : Option Value → Mm → Prop} {M : Mm} {rec_6 : Int32 × Int32 × Int32 × Int32 × Int32 → Prop} {Φ : Int32 → Prop} (hΦ : ∀ r, Φ r → Post (some (.int r)) M) (hrec_6 : ∀ (x1 : Int32) (x2 : Int32) (x3 : Int32) (x4 : Int32) (x5 : Int32), rec_6 (x1, x2, x3, x4, x5) → WP (Ct (d + 2)) 191 Post (6, [some (.ref 39), some (.int x1), some (.int x2), some (.int x3), some (.int x4), some (.int x5), none, none], [], M)) : ∀ (x1 : Int32) (x2 : Int32) (x3 : Int32) (x4 : Int32) (x5 : Int32), D_R_isSo_6 M Φ rec_6 (x1, x2, x3, x4, x5) → WP (Ct (d + 2)) 191 Post (6, [some (.ref 39), some (.int x1), some (.int x2), some (.int x3), some (.int x4), some (.int x5), none, none], [], M) := by
  intro x1 x2 x3 x4 x5 h
  replace h : ((x3 ≤ x5 → ((x4 = 0 ∨ x4 = 1) ∧ Φ x4)) ∧ (¬ (x3 ≤ x5) → (((M 45 (Int32.toNatClampNeg 3)) ≤ ((M 45 (Int32.toNatClampNeg 6)) + x5) → D_R_isSo_71 M Φ rec_6 (x1, x2, x3, x4, x5)) ∧ (¬ ((M 45 (Int32.toNatClampNeg 3)) ≤ ((M 45 (Int32.toNatClampNeg 6)) + x5)) → S_R_gearOf 45 M (fun r8 => S_R_bears 45 M r8 ((M 45 (Int32.toNatClampNeg 6)) + x5) (fun r9 => ((r9 = 0 → D_R_isSo_71 M Φ rec_6 (x1, x2, x3, x4, x5)) ∧ (¬ (r9 = 0) → S_R_gearOf 45 M (fun r11 => S_R_turnsOf 45 M r11 (fun r12 => D_R_isSo_72 M Φ rec_6 (x1, x2, x3, x4, x5, r12))))))))))) := h
  refine WP.blk [(.iload 5, 2, (0, 0), .null), (.iload_n 3, 1, (0, 0), .null)] (G := True) (c' := (9, [some (.ref 39), some (.int x1), some (.int x2), some (.int x3), some (.int x4), some (.int x5), none, none], [.int x3, .int x5], M)) (by decide +kernel) rfl trivial ?_
  refine WP.br (.if_icmp .ge 102, 3, (111, 0), .null) (by decide +kernel) rfl (fun c6 => ?_) (fun c6 => ?_)
  · replace h := h.1 c6
    refine WP.blk [(.iload 4, 2, (0, 0), .null)] (G := True) (c' := (113, [some (.ref 39), some (.int x1), some (.int x2), some (.int x3), some (.int x4), some (.int x5), none, none], [.int x4], M)) (by decide +kernel) rfl trivial ?_
    exact WP.ret (.ireturn, 1, (0, 0), .null) (rk := 2) (by decide +kernel) (by decide +kernel) rfl h.1 (hΦ _ h.2)
  · replace h := h.2 c6
    refine WP.blk [(.aload_n 0, 1, (0, 0), .null), (.getfield 25, 3, (7, 7), .null), (.bipush 6, 2, (0, 0), .int 6), (.iaload, 1, (0, 0), .null), (.iload 5, 2, (0, 0), .null), (.iadd, 1, (0, 0), .null), (.istore 6, 2, (0, 0), .null), (.iload 6, 2, (0, 0), .null), (.aload_n 0, 1, (0, 0), .null), (.getfield 25, 3, (7, 7), .null), (.iconst 3, 1, (0, 0), .int 3), (.iaload, 1, (0, 0), .null)] (G := vp_in 6 35 ∧ vp_in 3 35 ∧ True) (c' := (32, [some (.ref 39), some (.int x1), some (.int x2), some (.int x3), some (.int x4), some (.int x5), some (.int ((M 45 (Int32.toNatClampNeg 6)) + x5)), none], [.int (M 45 (Int32.toNatClampNeg 3)), .int ((M 45 (Int32.toNatClampNeg 6)) + x5)], M)) (by decide +kernel) rfl ⟨(vp_lit (by decide)), (vp_lit (by decide)), trivial⟩ ?_
    refine WP.br (.if_icmp .ge 39, 3, (71, 0), .null) (by decide +kernel) rfl (fun c7 => ?_) (fun c7 => ?_)
    · replace h := h.1 c7
      refine WP.fgt [some (.ref 39), some (.int x1), some (.int x2), some (.int x3), some (.int x4), some (.int x5), none, none] (by simp [fgt]) ?_
      exact L_R_isSo_71 hΦ hrec_6 _ _ _ _ _ h
    · replace h := h.2 c7
      refine WP.blk [(.aload_n 0, 1, (0, 0), .null), (.getfield 25, 3, (7, 7), .null), (.aload_n 0, 1, (0, 0), .null), (.getfield 25, 3, (7, 7), .null)] (G := True) (c' := (43, [some (.ref 39), some (.int x1), some (.int x2), some (.int x3), some (.int x4), some (.int x5), some (.int ((M 45 (Int32.toNatClampNeg 6)) + x5)), none], [.ref 45, .ref 45], M)) (by decide +kernel) rfl trivial ?_
      refine WP.call (.invokestatic 146, 3, (157, 1), .null) (by decide +kernel) rfl (sp_R_gearOf (d := d + 1) (by decide) h (fun r8 h => ?_))
      show WP (Ct (d + 2)) 191 Post (46, [some (.ref 39), some (.int x1), some (.int x2), some (.int x3), some (.int x4), some (.int x5), some (.int ((M 45 (Int32.toNatClampNeg 6)) + x5)), none], [.int r8, .ref 45], M)
      refine WP.blk [(.iload 6, 2, (0, 0), .null)] (G := True) (c' := (48, [some (.ref 39), some (.int x1), some (.int x2), some (.int x3), some (.int x4), some (.int x5), some (.int ((M 45 (Int32.toNatClampNeg 6)) + x5)), none], [.int ((M 45 (Int32.toNatClampNeg 6)) + x5), .int r8, .ref 45], M)) (by decide +kernel) rfl trivial ?_
      refine WP.call (.invokestatic 150, 3, (158, 3), .null) (by decide +kernel) rfl (sp_R_bears (d := d + 0) (by decide) h (fun r9 h => ?_))
      show WP (Ct (d + 2)) 191 Post (51, [some (.ref 39), some (.int x1), some (.int x2), some (.int x3), some (.int x4), some (.int x5), some (.int ((M 45 (Int32.toNatClampNeg 6)) + x5)), none], [.int r9], M)
      refine WP.br (.ifCond .eq 20, 3, (71, 0), .null) (by decide +kernel) rfl (fun c10 => ?_) (fun c10 => ?_)
      · replace h := h.1 c10
        refine WP.fgt [some (.ref 39), some (.int x1), some (.int x2), some (.int x3), some (.int x4), some (.int x5), none, none] (by simp [fgt]) ?_
        exact L_R_isSo_71 hΦ hrec_6 _ _ _ _ _ h
      · replace h := h.2 c10
        refine WP.blk [(.aload_n 0, 1, (0, 0), .null), (.getfield 25, 3, (7, 7), .null), (.aload_n 0, 1, (0, 0), .null), (.getfield 25, 3, (7, 7), .null)] (G := True) (c' := (62, [some (.ref 39), some (.int x1), some (.int x2), some (.int x3), some (.int x4), some (.int x5), some (.int ((M 45 (Int32.toNatClampNeg 6)) + x5)), none], [.ref 45, .ref 45], M)) (by decide +kernel) rfl trivial ?_
        refine WP.call (.invokestatic 146, 3, (157, 1), .null) (by decide +kernel) rfl (sp_R_gearOf (d := d + 1) (by decide) h (fun r11 h => ?_))
        show WP (Ct (d + 2)) 191 Post (65, [some (.ref 39), some (.int x1), some (.int x2), some (.int x3), some (.int x4), some (.int x5), some (.int ((M 45 (Int32.toNatClampNeg 6)) + x5)), none], [.int r11, .ref 45], M)
        refine WP.call (.invokestatic 158, 3, (161, 2), .null) (by decide +kernel) rfl (sp_R_turnsOf (d := d + 1) (by decide) h (fun r12 h => ?_))
        show WP (Ct (d + 2)) 191 Post (68, [some (.ref 39), some (.int x1), some (.int x2), some (.int x3), some (.int x4), some (.int x5), some (.int ((M 45 (Int32.toNatClampNeg 6)) + x5)), none], [.int r12], M)
        refine WP.blk [(.goto 4, 3, (72, 0), .null)] (G := True) (c' := (72, [some (.ref 39), some (.int x1), some (.int x2), some (.int x3), some (.int x4), some (.int x5), some (.int ((M 45 (Int32.toNatClampNeg 6)) + x5)), none], [.int r12], M)) (by decide +kernel) rfl trivial ?_
        refine WP.fgt [some (.ref 39), some (.int x1), some (.int x2), some (.int x3), some (.int x4), some (.int x5), none, none] (by simp [fgt]) ?_
        exact L_R_isSo_72 hΦ hrec_6 _ _ _ _ _ _ h
theorem P_R_isSo_6 {d : Nat} {Post : Option Value → Mm → Prop} {M : Mm} {Φ : Int32 → Prop} (hΦ : ∀ r, Φ r → Post (some (.int r)) M) : ∀ (n : Nat) (x1 : Int32) (x2 : Int32) (x3 : Int32) (x4 : Int32) (x5 : Int32), lp (D_R_isSo_6 M Φ) n (x1, x2, x3, x4, x5) → WP (Ct (d + 2)) 191 Post (6, [some (.ref 39), some (.int x1), some (.int x2), some (.int x3), some (.int x4), some (.int x5), none, none], [], M)
  | 0, x1, x2, x3, x4, x5, h => absurd h (by simp [lp])
  | n + 1, x1, x2, x3, x4, x5, h => L_R_isSo_6 hΦ (P_R_isSo_6 hΦ n) x1 x2 x3 x4 x5 h
set_option maxRecDepth 100000 in
set_option maxHeartbeats 4000000 in
theorem sp_R_isSo {d : Nat} {Post : Option Value → Mm → Prop} {M : Mm} {a1 : Int32} {a2 : Int32} {a3 : Int32} {Φ : Int32 → Prop} (h : S_R_isSo M a1 a2 a3 Φ) (hΦ : ∀ r, Φ r → Post (some (.int r)) M) : Ct (d + 3) 191 [.ref 39, .int a1, .int a2, .int a3] M Post := by
  refine Ct.go (n := 8) (E := [some (.ref 39), some (.int a1), some (.int a2), some (.int a3), none, none, none, none]) (by decide +kernel) (by simp [Value.category]) rfl ?_
  refine WP.blk [(.iconst 1, 1, (0, 0), .int 1), (.istore 4, 2, (0, 0), .null), (.iconst 0, 1, (0, 0), .int 0), (.istore 5, 2, (0, 0), .null)] (G := True) (c' := (6, [some (.ref 39), some (.int a1), some (.int a2), some (.int a3), some (.int 1), some (.int 0), none, none], [], M)) (by decide +kernel) rfl trivial ?_
  obtain ⟨n, h⟩ := h
  exact P_R_isSo_6 hΦ n _ _ _ _ _ h
/-- GearRoadModel.fits(IIII)I -/
def D_R_fits_261 (Φ : Int32 → Mm → Prop) : Int32 × Mm → Prop
  | (x1, M) => S_R_well M x1 (fun r2 M2 => Φ r2 M2)
def D_R_fits_254 (Φ : Int32 → Mm → Prop) : Int32 × Mm → Prop
  | (x1, M) => D_R_fits_261 Φ (x1, M)
def D_R_fits_225 (Φ : Int32 → Mm → Prop) (rec_170 : Int32 × Int32 × Int32 × Int32 × Int32 × Int32 × Int32 × Int32 × Int32 × Int32 × Mm → Prop) : Int32 × Int32 × Int32 × Int32 × Int32 × Int32 × Int32 × Int32 × Int32 × Int32 × Mm → Prop
  | (x1, x2, x3, x4, x5, x6, x7, x8, x9, x10, M) => rec_170 (x1, x2, x3, x4, x5, x6, x7, x8, x9, (x10 + (-1)), M)
def D_R_fits_215 (Φ : Int32 → Mm → Prop) (rec_170 : Int32 × Int32 × Int32 × Int32 × Int32 × Int32 × Int32 × Int32 × Int32 × Int32 × Mm → Prop) : Int32 × Int32 × Int32 × Int32 × Int32 × Int32 × Int32 × Int32 × Int32 × Int32 × Mm → Prop
  | (x1, x2, x3, x4, x5, x6, x7, x8, x9, x10, M) => D_R_fits_225 Φ rec_170 (x1, x2, x3, x4, x5, x6, (x10 ||| x9), (x7 + 1), x8, x8, M)
def D_R_fits_170 (Φ : Int32 → Mm → Prop) (rec_170 : Int32 × Int32 × Int32 × Int32 × Int32 × Int32 × Int32 × Int32 × Int32 × Int32 × Mm → Prop) : Int32 × Int32 × Int32 × Int32 × Int32 × Int32 × Int32 × Int32 × Int32 × Int32 × Mm → Prop
  | (x1, x2, x3, x4, x5, x6, x7, x8, x9, x10, M) => ((x10 < x5 → ((x4 = 0 → D_R_fits_261 Φ (x7, M)) ∧ (¬ (x4 = 0) → ((x4 = 1 → D_R_fits_254 Φ (x8, M)) ∧ (¬ (x4 = 1) → ((x4 = 3 → D_R_fits_254 Φ (x8, M)) ∧ (¬ (x4 = 3) → D_R_fits_261 Φ (x9, M)))))))) ∧ (¬ (x10 < x5) → S_R_take M (fun M15 => vp_in x6 35 ∧ (∀ M16, M16 = mu M15 45 (Int32.toNatClampNeg x6) x10 → S_R_isSo M16 x1 x2 x3 (fun r17 => ((r17 = 0 → D_R_fits_225 Φ rec_170 (x1, x2, x3, x4, x5, x6, x7, x8, x9, x10, M16)) ∧ (¬ (r17 = 0) → ((x4 = 0 → D_R_fits_215 Φ rec_170 (x1, x2, x3, x4, x5, x6, x8, x10, (1 <<< (x10 &&& 31)), x7, M16)) ∧ (¬ (x4 = 0) → D_R_fits_215 Φ rec_170 (x1, x2, x3, x4, x5, x6, x8, x10, 0, x7, M16))))))))))
def D_R_fits_154 (Φ : Int32 → Mm → Prop) : Int32 × Int32 × Int32 × Int32 × Int32 × Int32 × Int32 × Mm → Prop
  | (x1, x2, x3, x4, x5, x6, x7, M) => ∃ n, lp (D_R_fits_170 Φ) n (x1, x2, x3, x4, x5, x7, 0, 0, (-1000000), x6, M)
def D_R_fits_116 (Φ : Int32 → Mm → Prop) : Int32 × Int32 × Int32 × Int32 × Int32 × Int32 × Mm → Prop
  | (x1, x2, x3, x4, x5, x6, M) => ((x4 = 0 → D_R_fits_154 Φ (x1, x2, x3, x4, x5, x6, (11 + (M 44 (Int32.toNatClampNeg 5))), M)) ∧ (¬ (x4 = 0) → ((3 ≤ x4 → D_R_fits_154 Φ (x1, x2, x3, x4, x5, x6, 0, M)) ∧ (¬ (3 ≤ x4) → D_R_fits_154 Φ (x1, x2, x3, x4, x5, x6, (17 + (M 44 (Int32.toNatClampNeg 5))), M)))))
def D_R_fits_92 (Φ : Int32 → Mm → Prop) : Int32 × Int32 × Int32 × Int32 × Int32 × Mm → Prop
  | (x1, x2, x3, x4, x5, M) => ((x4 = 0 → D_R_fits_116 Φ (x1, x2, x3, x4, x5, 5, M)) ∧ (¬ (x4 = 0) → ((3 ≤ x4 → D_R_fits_116 Φ (x1, x2, x3, x4, x5, 99, M)) ∧ (¬ (3 ≤ x4) → D_R_fits_116 Φ (x1, x2, x3, x4, x5, 40, M)))))
def S_R_fits (M : Mm) (a1 : Int32) (a2 : Int32) (a3 : Int32) (a4 : Int32) (Φ : Int32 → Mm → Prop) : Prop := S_R_isRow M a1 (fun r1 => ((r1 = 0 → Φ (-1000001) M) ∧ (¬ (r1 = 0) → S_R_in M a3 1 6 (fun r3 => ((r3 = 0 → Φ (-1000001) M) ∧ (¬ (r3 = 0) → S_R_in M a4 0 4 (fun r5 => ((r5 = 0 → Φ (-1000001) M) ∧ (¬ (r5 = 0) → (((M 39 5) = 0 → Φ (-1000002) M) ∧ (¬ ((M 39 5) = 0) → vp_in a1 8 ∧ ((0 ≤ (M 40 (Int32.toNatClampNeg a1)) → S_R_areIn M a1 a2 a3 (fun r9 => ((r9 = 0 → S_R_found M 2 (fun r13 M13 => Φ r13 M13)) ∧ (¬ (r9 = 0) → ((a4 = 0 → D_R_fits_92 Φ (a1, a2, a3, a4, 1, M)) ∧ (¬ (a4 = 0) → ((3 ≤ a4 → D_R_fits_92 Φ (a1, a2, a3, a4, 1, M)) ∧ (¬ (3 ≤ a4) → D_R_fits_92 Φ (a1, a2, a3, a4, 10, M))))))))) ∧ (¬ (0 ≤ (M 40 (Int32.toNatClampNeg a1))) → S_R_found M 1 (fun r14 M14 => Φ r14 M14))))))))))))))
set_option maxRecDepth 100000 in
set_option maxHeartbeats 4000000 in
theorem L_R_fits_261 {d : Nat} {Post : Option Value → Mm → Prop} {Φ : Int32 → Mm → Prop} (hΦ : ∀ r M1, Φ r M1 → Post (some (.int r)) M1) : ∀ (x1 : Int32) (M : Mm), D_R_fits_261 Φ (x1, M) → WP (Ct (d + 3)) 189 Post (261, [none, none, none, none, none, none, none, none, none, none, none, none], [.int x1, .ref 39], M) := by
  intro x1 M h
  replace h : S_R_well M x1 (fun r2 M2 => Φ r2 M2) := h
  refine WP.call (.invokevirtual 66, 3, (137, 2), .retAddr 7) (by decide +kernel) rfl (sp_R_well (d := d + 2) h (fun r2 M2 h => ?_))
  show WP (Ct (d + 3)) 189 Post (264, [none, none, none, none, none, none, none, none, none, none, none, none], [.int r2], M2)
  exact WP.ret (.ireturn, 1, (0, 0), .null) (rk := 1) (by decide +kernel) (by decide +kernel) rfl trivial (hΦ _ _ h)
set_option maxRecDepth 100000 in
set_option maxHeartbeats 4000000 in
theorem L_R_fits_254 {d : Nat} {Post : Option Value → Mm → Prop} {Φ : Int32 → Mm → Prop} (hΦ : ∀ r M1, Φ r M1 → Post (some (.int r)) M1) : ∀ (x1 : Int32) (M : Mm), D_R_fits_254 Φ (x1, M) → WP (Ct (d + 3)) 189 Post (254, [none, none, none, none, none, none, none, none, none, some (.int x1), none, none], [.ref 39], M) := by
  intro x1 M h
  replace h : D_R_fits_261 Φ (x1, M) := h
  refine WP.blk [(.iload 9, 2, (0, 0), .null), (.goto 5, 3, (261, 0), .null)] (G := True) (c' := (261, [none, none, none, none, none, none, none, none, none, some (.int x1), none, none], [.int x1, .ref 39], M)) (by decide +kernel) rfl trivial ?_
  refine WP.fgt [none, none, none, none, none, none, none, none, none, none, none, none] (by simp [fgt]) ?_
  exact L_R_fits_261 hΦ _ _ h
set_option maxRecDepth 100000 in
set_option maxHeartbeats 4000000 in
theorem L_R_fits_225 {d : Nat} {Post : Option Value → Mm → Prop} {rec_170 : Int32 × Int32 × Int32 × Int32 × Int32 × Int32 × Int32 × Int32 × Int32 × Int32 × Mm → Prop} {Φ : Int32 → Mm → Prop} (hΦ : ∀ r M1, Φ r M1 → Post (some (.int r)) M1) (hrec_170 : ∀ (x1 : Int32) (x2 : Int32) (x3 : Int32) (x4 : Int32) (x5 : Int32) (x6 : Int32) (x7 : Int32) (x8 : Int32) (x9 : Int32) (x10 : Int32) (M : Mm), rec_170 (x1, x2, x3, x4, x5, x6, x7, x8, x9, x10, M) → WP (Ct (d + 3)) 189 Post (170, [some (.ref 39), some (.int x1), some (.int x2), some (.int x3), some (.int x4), some (.int x5), none, some (.int x6), some (.int x7), some (.int x8), some (.int x9), some (.int x10)], [], M)) : ∀ (x1 : Int32) (x2 : Int32) (x3 : Int32) (x4 : Int32) (x5 : Int32) (x6 : Int32) (x7 : Int32) (x8 : Int32) (x9 : Int32) (x10 : Int32) (M : Mm), D_R_fits_225 Φ rec_170 (x1, x2, x3, x4, x5, x6, x7, x8, x9, x10, M) → WP (Ct (d + 3)) 189 Post (225, [some (.ref 39), some (.int x1), some (.int x2), some (.int x3), some (.int x4), some (.int x5), none, some (.int x6), some (.int x7), some (.int x8), some (.int x9), some (.int x10)], [], M) := by
  intro x1 x2 x3 x4 x5 x6 x7 x8 x9 x10 M h
  replace h : rec_170 (x1, x2, x3, x4, x5, x6, x7, x8, x9, (x10 + (-1)), M) := h
  refine WP.blk [(.iinc 11 (-1), 3, (0, 0), .int (-1)), (.goto (-58), 3, (170, 0), .null)] (G := True) (c' := (170, [some (.ref 39), some (.int x1), some (.int x2), some (.int x3), some (.int x4), some (.int x5), none, some (.int x6), some (.int x7), some (.int x8), some (.int x9), some (.int (x10 + (-1)))], [], M)) (by decide +kernel) rfl trivial ?_
  exact hrec_170 _ _ _ _ _ _ _ _ _ _ _ h
set_option maxRecDepth 100000 in
set_option maxHeartbeats 4000000 in
theorem L_R_fits_215 {d : Nat} {Post : Option Value → Mm → Prop} {rec_170 : Int32 × Int32 × Int32 × Int32 × Int32 × Int32 × Int32 × Int32 × Int32 × Int32 × Mm → Prop} {Φ : Int32 → Mm → Prop} (hΦ : ∀ r M1, Φ r M1 → Post (some (.int r)) M1) (hrec_170 : ∀ (x1 : Int32) (x2 : Int32) (x3 : Int32) (x4 : Int32) (x5 : Int32) (x6 : Int32) (x7 : Int32) (x8 : Int32) (x9 : Int32) (x10 : Int32) (M : Mm), rec_170 (x1, x2, x3, x4, x5, x6, x7, x8, x9, x10, M) → WP (Ct (d + 3)) 189 Post (170, [some (.ref 39), some (.int x1), some (.int x2), some (.int x3), some (.int x4), some (.int x5), none, some (.int x6), some (.int x7), some (.int x8), some (.int x9), some (.int x10)], [], M)) : ∀ (x1 : Int32) (x2 : Int32) (x3 : Int32) (x4 : Int32) (x5 : Int32) (x6 : Int32) (x7 : Int32) (x8 : Int32) (x9 : Int32) (x10 : Int32) (M : Mm), D_R_fits_215 Φ rec_170 (x1, x2, x3, x4, x5, x6, x7, x8, x9, x10, M) → WP (Ct (d + 3)) 189 Post (215, [some (.ref 39), some (.int x1), some (.int x2), some (.int x3), some (.int x4), some (.int x5), none, some (.int x6), none, some (.int x7), none, some (.int x8)], [.int x9, .int x10], M) := by
  intro x1 x2 x3 x4 x5 x6 x7 x8 x9 x10 M h
  replace h : D_R_fits_225 Φ rec_170 (x1, x2, x3, x4, x5, x6, (x10 ||| x9), (x7 + 1), x8, x8, M) := h
  refine WP.blk [(.ior, 1, (0, 0), .null), (.istore 8, 2, (0, 0), .null), (.iinc 9 1, 3, (0, 0), .int 1), (.iload 11, 2, (0, 0), .null), (.istore 10, 2, (0, 0), .null)] (G := True) (c' := (225, [some (.ref 39), some (.int x1), some (.int x2), some (.int x3), some (.int x4), some (.int x5), none, some (.int x6), some (.int (x10 ||| x9)), some (.int (x7 + 1)), some (.int x8), some (.int x8)], [], M)) (by decide +kernel) rfl trivial ?_
  exact L_R_fits_225 hΦ hrec_170 _ _ _ _ _ _ _ _ _ _ _ h
set_option maxRecDepth 100000 in
set_option maxHeartbeats 4000000 in
theorem L_R_fits_170 {d : Nat} {Post : Option Value → Mm → Prop} {rec_170 : Int32 × Int32 × Int32 × Int32 × Int32 × Int32 × Int32 × Int32 × Int32 × Int32 × Mm → Prop} {Φ : Int32 → Mm → Prop} (hΦ : ∀ r M1, Φ r M1 → Post (some (.int r)) M1) (hrec_170 : ∀ (x1 : Int32) (x2 : Int32) (x3 : Int32) (x4 : Int32) (x5 : Int32) (x6 : Int32) (x7 : Int32) (x8 : Int32) (x9 : Int32) (x10 : Int32) (M : Mm), rec_170 (x1, x2, x3, x4, x5, x6, x7, x8, x9, x10, M) → WP (Ct (d + 3)) 189 Post (170, [some (.ref 39), some (.int x1), some (.int x2), some (.int x3), some (.int x4), some (.int x5), none, some (.int x6), some (.int x7), some (.int x8), some (.int x9), some (.int x10)], [], M)) : ∀ (x1 : Int32) (x2 : Int32) (x3 : Int32) (x4 : Int32) (x5 : Int32) (x6 : Int32) (x7 : Int32) (x8 : Int32) (x9 : Int32) (x10 : Int32) (M : Mm), D_R_fits_170 Φ rec_170 (x1, x2, x3, x4, x5, x6, x7, x8, x9, x10, M) → WP (Ct (d + 3)) 189 Post (170, [some (.ref 39), some (.int x1), some (.int x2), some (.int x3), some (.int x4), some (.int x5), none, some (.int x6), some (.int x7), some (.int x8), some (.int x9), some (.int x10)], [], M) := by
  intro x1 x2 x3 x4 x5 x6 x7 x8 x9 x10 M h
  replace h : ((x10 < x5 → ((x4 = 0 → D_R_fits_261 Φ (x7, M)) ∧ (¬ (x4 = 0) → ((x4 = 1 → D_R_fits_254 Φ (x8, M)) ∧ (¬ (x4 = 1) → ((x4 = 3 → D_R_fits_254 Φ (x8, M)) ∧ (¬ (x4 = 3) → D_R_fits_261 Φ (x9, M)))))))) ∧ (¬ (x10 < x5) → S_R_take M (fun M15 => vp_in x6 35 ∧ (∀ M16, M16 = mu M15 45 (Int32.toNatClampNeg x6) x10 → S_R_isSo M16 x1 x2 x3 (fun r17 => ((r17 = 0 → D_R_fits_225 Φ rec_170 (x1, x2, x3, x4, x5, x6, x7, x8, x9, x10, M16)) ∧ (¬ (r17 = 0) → ((x4 = 0 → D_R_fits_215 Φ rec_170 (x1, x2, x3, x4, x5, x6, x8, x10, (1 <<< (x10 &&& 31)), x7, M16)) ∧ (¬ (x4 = 0) → D_R_fits_215 Φ rec_170 (x1, x2, x3, x4, x5, x6, x8, x10, 0, x7, M16)))))))))) := h
  refine WP.blk [(.iload 11, 2, (0, 0), .null), (.iload 5, 2, (0, 0), .null)] (G := True) (c' := (174, [some (.ref 39), some (.int x1), some (.int x2), some (.int x3), some (.int x4), some (.int x5), none, some (.int x6), some (.int x7), some (.int x8), some (.int x9), some (.int x10)], [.int x5, .int x10], M)) (by decide +kernel) rfl trivial ?_
  refine WP.br (.if_icmp .lt 57, 3, (231, 0), .null) (by decide +kernel) rfl (fun c11 => ?_) (fun c11 => ?_)
  · replace h := h.1 c11
    refine WP.blk [(.aload_n 0, 1, (0, 0), .null), (.iload 4, 2, (0, 0), .null)] (G := True) (c' := (234, [some (.ref 39), some (.int x1), some (.int x2), some (.int x3), some (.int x4), some (.int x5), none, some (.int x6), some (.int x7), some (.int x8), some (.int x9), some (.int x10)], [.int x4, .ref 39], M)) (by decide +kernel) rfl trivial ?_
    refine WP.br (.ifCond .ne 8, 3, (242, 0), .null) (by decide +kernel) rfl (fun c12 => ?_) (fun c12 => ?_)
    · replace h := h.2 c12
      refine WP.blk [(.iload 4, 2, (0, 0), .null), (.iconst 1, 1, (0, 0), .int 1)] (G := True) (c' := (245, [some (.ref 39), some (.int x1), some (.int x2), some (.int x3), some (.int x4), some (.int x5), none, some (.int x6), some (.int x7), some (.int x8), some (.int x9), some (.int x10)], [.int 1, .int x4, .ref 39], M)) (by decide +kernel) rfl trivial ?_
      refine WP.br (.if_icmp .eq 9, 3, (254, 0), .null) (by decide +kernel) rfl (fun c13 => ?_) (fun c13 => ?_)
      · replace h := h.1 c13
        refine WP.fgt [none, none, none, none, none, none, none, none, none, some (.int x8), none, none] (by simp [fgt]) ?_
        exact L_R_fits_254 hΦ _ _ h
      · replace h := h.2 c13
        refine WP.blk [(.iload 4, 2, (0, 0), .null), (.iconst 3, 1, (0, 0), .int 3)] (G := True) (c' := (251, [some (.ref 39), some (.int x1), some (.int x2), some (.int x3), some (.int x4), some (.int x5), none, some (.int x6), some (.int x7), some (.int x8), some (.int x9), some (.int x10)], [.int 3, .int x4, .ref 39], M)) (by decide +kernel) rfl trivial ?_
        refine WP.br (.if_icmp .ne 8, 3, (259, 0), .null) (by decide +kernel) rfl (fun c14 => ?_) (fun c14 => ?_)
        · replace h := h.2 c14
          refine WP.blk [(.iload 10, 2, (0, 0), .null)] (G := True) (c' := (261, [some (.ref 39), some (.int x1), some (.int x2), some (.int x3), some (.int x4), some (.int x5), none, some (.int x6), some (.int x7), some (.int x8), some (.int x9), some (.int x10)], [.int x9, .ref 39], M)) (by decide +kernel) rfl trivial ?_
          refine WP.fgt [none, none, none, none, none, none, none, none, none, none, none, none] (by simp [fgt]) ?_
          exact L_R_fits_261 hΦ _ _ h
        · replace h := h.1 (Classical.not_not.mp c14)
          refine WP.fgt [none, none, none, none, none, none, none, none, none, some (.int x8), none, none] (by simp [fgt]) ?_
          exact L_R_fits_254 hΦ _ _ h
    · replace h := h.1 (Classical.not_not.mp c12)
      refine WP.blk [(.iload 8, 2, (0, 0), .null), (.goto 22, 3, (261, 0), .null)] (G := True) (c' := (261, [some (.ref 39), some (.int x1), some (.int x2), some (.int x3), some (.int x4), some (.int x5), none, some (.int x6), some (.int x7), some (.int x8), some (.int x9), some (.int x10)], [.int x7, .ref 39], M)) (by decide +kernel) rfl trivial ?_
      refine WP.fgt [none, none, none, none, none, none, none, none, none, none, none, none] (by simp [fgt]) ?_
      exact L_R_fits_261 hΦ _ _ h
  · replace h := h.2 c11
    refine WP.blk [(.aload_n 0, 1, (0, 0), .null)] (G := True) (c' := (178, [some (.ref 39), some (.int x1), some (.int x2), some (.int x3), some (.int x4), some (.int x5), none, some (.int x6), some (.int x7), some (.int x8), some (.int x9), some (.int x10)], [.ref 39], M)) (by decide +kernel) rfl trivial ?_
    refine WP.call (.invokevirtual 199, 3, (190, 1), .retAddr 7) (by decide +kernel) rfl (sp_R_take (d := d + 2) h (fun M15 h => ?_))
    show WP (Ct (d + 3)) 189 Post (181, [some (.ref 39), some (.int x1), some (.int x2), some (.int x3), some (.int x4), some (.int x5), none, some (.int x6), some (.int x7), some (.int x8), some (.int x9), some (.int x10)], [], M15)
    refine WP.blk [(.aload_n 0, 1, (0, 0), .null), (.getfield 25, 3, (7, 7), .null), (.iload 7, 2, (0, 0), .null), (.iload 11, 2, (0, 0), .null), (.iastore, 1, (0, 0), .null)] (G := vp_in x6 35 ∧ True) (c' := (190, [some (.ref 39), some (.int x1), some (.int x2), some (.int x3), some (.int x4), some (.int x5), none, some (.int x6), some (.int x7), some (.int x8), some (.int x9), some (.int x10)], [], (mu M15 45 (Int32.toNatClampNeg x6) x10))) (by decide +kernel) rfl ⟨h.1, trivial⟩ ?_
    replace h := h.2
    replace h := h (mu M15 45 (Int32.toNatClampNeg x6) x10) rfl
    generalize (mu M15 45 (Int32.toNatClampNeg x6) x10) = M16 at h ⊢
    refine WP.blk [(.aload_n 0, 1, (0, 0), .null), (.iload_n 1, 1, (0, 0), .null), (.iload_n 2, 1, (0, 0), .null), (.iload_n 3, 1, (0, 0), .null)] (G := True) (c' := (194, [some (.ref 39), some (.int x1), some (.int x2), some (.int x3), some (.int x4), some (.int x5), none, some (.int x6), some (.int x7), some (.int x8), some (.int x9), some (.int x10)], [.int x3, .int x2, .int x1, .ref 39], M16)) (by decide +kernel) rfl trivial ?_
    refine WP.call (.invokevirtual 202, 3, (191, 4), .retAddr 7) (by decide +kernel) rfl (sp_R_isSo (d := d + 0) h (fun r17 h => ?_))
    show WP (Ct (d + 3)) 189 Post (197, [some (.ref 39), some (.int x1), some (.int x2), some (.int x3), some (.int x4), some (.int x5), none, some (.int x6), some (.int x7), some (.int x8), some (.int x9), some (.int x10)], [.int r17], M16)
    refine WP.br (.ifCond .eq 28, 3, (225, 0), .null) (by decide +kernel) rfl (fun c18 => ?_) (fun c18 => ?_)
    · replace h := h.1 c18
      exact L_R_fits_225 hΦ hrec_170 _ _ _ _ _ _ _ _ _ _ _ h
    · replace h := h.2 c18
      refine WP.blk [(.iload 8, 2, (0, 0), .null), (.iload 4, 2, (0, 0), .null)] (G := True) (c' := (204, [some (.ref 39), some (.int x1), some (.int x2), some (.int x3), some (.int x4), some (.int x5), none, some (.int x6), some (.int x7), some (.int x8), some (.int x9), some (.int x10)], [.int x4, .int x7], M16)) (by decide +kernel) rfl trivial ?_
      refine WP.br (.ifCond .ne 10, 3, (214, 0), .null) (by decide +kernel) rfl (fun c19 => ?_) (fun c19 => ?_)
      · replace h := h.2 c19
        refine WP.blk [(.iconst 0, 1, (0, 0), .int 0)] (G := True) (c' := (215, [some (.ref 39), some (.int x1), some (.int x2), some (.int x3), some (.int x4), some (.int x5), none, some (.int x6), some (.int x7), some (.int x8), some (.int x9), some (.int x10)], [.int 0, .int x7], M16)) (by decide +kernel) rfl trivial ?_
        refine WP.fgt [some (.ref 39), some (.int x1), some (.int x2), some (.int x3), some (.int x4), some (.int x5), none, some (.int x6), none, some (.int x8), none, some (.int x10)] (by simp [fgt]) ?_
        exact L_R_fits_215 hΦ hrec_170 _ _ _ _ _ _ _ _ _ _ _ h
      · replace h := h.1 (Classical.not_not.mp c19)
        refine WP.blk [(.iconst 1, 1, (0, 0), .int 1), (.iload 11, 2, (0, 0), .null), (.ishl, 1, (0, 0), .null), (.goto 4, 3, (215, 0), .null)] (G := True) (c' := (215, [some (.ref 39), some (.int x1), some (.int x2), some (.int x3), some (.int x4), some (.int x5), none, some (.int x6), some (.int x7), some (.int x8), some (.int x9), some (.int x10)], [.int (1 <<< (x10 &&& 31)), .int x7], M16)) (by decide +kernel) rfl trivial ?_
        refine WP.fgt [some (.ref 39), some (.int x1), some (.int x2), some (.int x3), some (.int x4), some (.int x5), none, some (.int x6), none, some (.int x8), none, some (.int x10)] (by simp [fgt]) ?_
        exact L_R_fits_215 hΦ hrec_170 _ _ _ _ _ _ _ _ _ _ _ h
theorem P_R_fits_170 {d : Nat} {Post : Option Value → Mm → Prop} {Φ : Int32 → Mm → Prop} (hΦ : ∀ r M1, Φ r M1 → Post (some (.int r)) M1) : ∀ (n : Nat) (x1 : Int32) (x2 : Int32) (x3 : Int32) (x4 : Int32) (x5 : Int32) (x6 : Int32) (x7 : Int32) (x8 : Int32) (x9 : Int32) (x10 : Int32) (M : Mm), lp (D_R_fits_170 Φ) n (x1, x2, x3, x4, x5, x6, x7, x8, x9, x10, M) → WP (Ct (d + 3)) 189 Post (170, [some (.ref 39), some (.int x1), some (.int x2), some (.int x3), some (.int x4), some (.int x5), none, some (.int x6), some (.int x7), some (.int x8), some (.int x9), some (.int x10)], [], M)
  | 0, x1, x2, x3, x4, x5, x6, x7, x8, x9, x10, M, h => absurd h (by simp [lp])
  | n + 1, x1, x2, x3, x4, x5, x6, x7, x8, x9, x10, M, h => L_R_fits_170 hΦ (P_R_fits_170 hΦ n) x1 x2 x3 x4 x5 x6 x7 x8 x9 x10 M h
set_option maxRecDepth 100000 in
set_option maxHeartbeats 4000000 in
theorem L_R_fits_154 {d : Nat} {Post : Option Value → Mm → Prop} {Φ : Int32 → Mm → Prop} (hΦ : ∀ r M1, Φ r M1 → Post (some (.int r)) M1) : ∀ (x1 : Int32) (x2 : Int32) (x3 : Int32) (x4 : Int32) (x5 : Int32) (x6 : Int32) (x7 : Int32) (M : Mm), D_R_fits_154 Φ (x1, x2, x3, x4, x5, x6, x7, M) → WP (Ct (d + 3)) 189 Post (154, [some (.ref 39), some (.int x1), some (.int x2), some (.int x3), some (.int x4), some (.int x5), some (.int x6), none, none, none, none, none], [.int x7], M) := by
  intro x1 x2 x3 x4 x5 x6 x7 M h
  replace h : ∃ n, lp (D_R_fits_170 Φ) n (x1, x2, x3, x4, x5, x7, 0, 0, (-1000000), x6, M) := h
  refine WP.blk [(.istore 7, 2, (0, 0), .null), (.iconst 0, 1, (0, 0), .int 0), (.istore 8, 2, (0, 0), .null), (.iconst 0, 1, (0, 0), .int 0), (.istore 9, 2, (0, 0), .null), (.ldc 185, 2, (0, 0), .int (-1000000)), (.istore 10, 2, (0, 0), .null), (.iload 6, 2, (0, 0), .null), (.istore 11, 2, (0, 0), .null)] (G := True) (c' := (170, [some (.ref 39), some (.int x1), some (.int x2), some (.int x3), some (.int x4), some (.int x5), some (.int x6), some (.int x7), some (.int 0), some (.int 0), some (.int (-1000000)), some (.int x6)], [], M)) (by decide +kernel) rfl trivial ?_
  refine WP.fgt [some (.ref 39), some (.int x1), some (.int x2), some (.int x3), some (.int x4), some (.int x5), none, some (.int x7), some (.int 0), some (.int 0), some (.int (-1000000)), some (.int x6)] (by simp [fgt]) ?_
  obtain ⟨n, h⟩ := h
  exact P_R_fits_170 hΦ n _ _ _ _ _ _ _ _ _ _ _ h
set_option maxRecDepth 100000 in
set_option maxHeartbeats 4000000 in
theorem L_R_fits_116 {d : Nat} {Post : Option Value → Mm → Prop} {Φ : Int32 → Mm → Prop} (hΦ : ∀ r M1, Φ r M1 → Post (some (.int r)) M1) : ∀ (x1 : Int32) (x2 : Int32) (x3 : Int32) (x4 : Int32) (x5 : Int32) (x6 : Int32) (M : Mm), D_R_fits_116 Φ (x1, x2, x3, x4, x5, x6, M) → WP (Ct (d + 3)) 189 Post (116, [some (.ref 39), some (.int x1), some (.int x2), some (.int x3), some (.int x4), some (.int x5), none, none, none, none, none, none], [.int x6], M) := by
  intro x1 x2 x3 x4 x5 x6 M h
  replace h : ((x4 = 0 → D_R_fits_154 Φ (x1, x2, x3, x4, x5, x6, (11 + (M 44 (Int32.toNatClampNeg 5))), M)) ∧ (¬ (x4 = 0) → ((3 ≤ x4 → D_R_fits_154 Φ (x1, x2, x3, x4, x5, x6, 0, M)) ∧ (¬ (3 ≤ x4) → D_R_fits_154 Φ (x1, x2, x3, x4, x5, x6, (17 + (M 44 (Int32.toNatClampNeg 5))), M))))) := h
  refine WP.blk [(.istore 6, 2, (0, 0), .null), (.iload 4, 2, (0, 0), .null)] (G := True) (c' := (120, [some (.ref 39), some (.int x1), some (.int x2), some (.int x3), some (.int x4), some (.int x5), some (.int x6), none, none, none, none, none], [.int x4], M)) (by decide +kernel) rfl trivial ?_
  refine WP.br (.ifCond .ne 15, 3, (135, 0), .null) (by decide +kernel) rfl (fun c7 => ?_) (fun c7 => ?_)
  · replace h := h.2 c7
    refine WP.blk [(.iload 4, 2, (0, 0), .null), (.iconst 3, 1, (0, 0), .int 3)] (G := True) (c' := (138, [some (.ref 39), some (.int x1), some (.int x2), some (.int x3), some (.int x4), some (.int x5), some (.int x6), none, none, none, none, none], [.int 3, .int x4], M)) (by decide +kernel) rfl trivial ?_
    refine WP.br (.if_icmp .ge 15, 3, (153, 0), .null) (by decide +kernel) rfl (fun c8 => ?_) (fun c8 => ?_)
    · replace h := h.1 c8
      refine WP.blk [(.iconst 0, 1, (0, 0), .int 0)] (G := True) (c' := (154, [some (.ref 39), some (.int x1), some (.int x2), some (.int x3), some (.int x4), some (.int x5), some (.int x6), none, none, none, none, none], [.int 0], M)) (by decide +kernel) rfl trivial ?_
      exact L_R_fits_154 hΦ _ _ _ _ _ _ _ _ h
    · replace h := h.2 c8
      refine WP.blk [(.bipush 17, 2, (0, 0), .int 17), (.aload_n 0, 1, (0, 0), .null), (.getfield 22, 3, (7, 6), .null), (.iconst 5, 1, (0, 0), .int 5), (.iaload, 1, (0, 0), .null), (.iadd, 1, (0, 0), .null), (.goto 4, 3, (154, 0), .null)] (G := vp_in 5 35 ∧ True) (c' := (154, [some (.ref 39), some (.int x1), some (.int x2), some (.int x3), some (.int x4), some (.int x5), some (.int x6), none, none, none, none, none], [.int (17 + (M 44 (Int32.toNatClampNeg 5)))], M)) (by decide +kernel) rfl ⟨(vp_lit (by decide)), trivial⟩ ?_
      exact L_R_fits_154 hΦ _ _ _ _ _ _ _ _ h
  · replace h := h.1 (Classical.not_not.mp c7)
    refine WP.blk [(.bipush 11, 2, (0, 0), .int 11), (.aload_n 0, 1, (0, 0), .null), (.getfield 22, 3, (7, 6), .null), (.iconst 5, 1, (0, 0), .int 5), (.iaload, 1, (0, 0), .null), (.iadd, 1, (0, 0), .null), (.goto 22, 3, (154, 0), .null)] (G := vp_in 5 35 ∧ True) (c' := (154, [some (.ref 39), some (.int x1), some (.int x2), some (.int x3), some (.int x4), some (.int x5), some (.int x6), none, none, none, none, none], [.int (11 + (M 44 (Int32.toNatClampNeg 5)))], M)) (by decide +kernel) rfl ⟨(vp_lit (by decide)), trivial⟩ ?_
    exact L_R_fits_154 hΦ _ _ _ _ _ _ _ _ h
set_option maxRecDepth 100000 in
set_option maxHeartbeats 4000000 in
theorem L_R_fits_92 {d : Nat} {Post : Option Value → Mm → Prop} {Φ : Int32 → Mm → Prop} (hΦ : ∀ r M1, Φ r M1 → Post (some (.int r)) M1) : ∀ (x1 : Int32) (x2 : Int32) (x3 : Int32) (x4 : Int32) (x5 : Int32) (M : Mm), D_R_fits_92 Φ (x1, x2, x3, x4, x5, M) → WP (Ct (d + 3)) 189 Post (92, [some (.ref 39), some (.int x1), some (.int x2), some (.int x3), some (.int x4), none, none, none, none, none, none, none], [.int x5], M) := by
  intro x1 x2 x3 x4 x5 M h
  replace h : ((x4 = 0 → D_R_fits_116 Φ (x1, x2, x3, x4, x5, 5, M)) ∧ (¬ (x4 = 0) → ((3 ≤ x4 → D_R_fits_116 Φ (x1, x2, x3, x4, x5, 99, M)) ∧ (¬ (3 ≤ x4) → D_R_fits_116 Φ (x1, x2, x3, x4, x5, 40, M))))) := h
  refine WP.blk [(.istore 5, 2, (0, 0), .null), (.iload 4, 2, (0, 0), .null)] (G := True) (c' := (96, [some (.ref 39), some (.int x1), some (.int x2), some (.int x3), some (.int x4), some (.int x5), none, none, none, none, none, none], [.int x4], M)) (by decide +kernel) rfl trivial ?_
  refine WP.br (.ifCond .ne 7, 3, (103, 0), .null) (by decide +kernel) rfl (fun c6 => ?_) (fun c6 => ?_)
  · replace h := h.2 c6
    refine WP.blk [(.iload 4, 2, (0, 0), .null), (.iconst 3, 1, (0, 0), .int 3)] (G := True) (c' := (106, [some (.ref 39), some (.int x1), some (.int x2), some (.int x3), some (.int x4), some (.int x5), none, none, none, none, none, none], [.int 3, .int x4], M)) (by decide +kernel) rfl trivial ?_
    refine WP.br (.if_icmp .ge 8, 3, (114, 0), .null) (by decide +kernel) rfl (fun c7 => ?_) (fun c7 => ?_)
    · replace h := h.1 c7
      refine WP.blk [(.bipush 99, 2, (0, 0), .int 99)] (G := True) (c' := (116, [some (.ref 39), some (.int x1), some (.int x2), some (.int x3), some (.int x4), some (.int x5), none, none, none, none, none, none], [.int 99], M)) (by decide +kernel) rfl trivial ?_
      exact L_R_fits_116 hΦ _ _ _ _ _ _ _ h
    · replace h := h.2 c7
      refine WP.blk [(.bipush 40, 2, (0, 0), .int 40), (.goto 5, 3, (116, 0), .null)] (G := True) (c' := (116, [some (.ref 39), some (.int x1), some (.int x2), some (.int x3), some (.int x4), some (.int x5), none, none, none, none, none, none], [.int 40], M)) (by decide +kernel) rfl trivial ?_
      exact L_R_fits_116 hΦ _ _ _ _ _ _ _ h
  · replace h := h.1 (Classical.not_not.mp c6)
    refine WP.blk [(.iconst 5, 1, (0, 0), .int 5), (.goto 16, 3, (116, 0), .null)] (G := True) (c' := (116, [some (.ref 39), some (.int x1), some (.int x2), some (.int x3), some (.int x4), some (.int x5), none, none, none, none, none, none], [.int 5], M)) (by decide +kernel) rfl trivial ?_
    exact L_R_fits_116 hΦ _ _ _ _ _ _ _ h
set_option maxRecDepth 100000 in
set_option maxHeartbeats 4000000 in
theorem sp_R_fits {d : Nat} {Post : Option Value → Mm → Prop} {M : Mm} {a1 : Int32} {a2 : Int32} {a3 : Int32} {a4 : Int32} {Φ : Int32 → Mm → Prop} (h : S_R_fits M a1 a2 a3 a4 Φ) (hΦ : ∀ r M1, Φ r M1 → Post (some (.int r)) M1) : Ct (d + 4) 189 [.ref 39, .int a1, .int a2, .int a3, .int a4] M Post := by
  refine Ct.go (n := 12) (E := [some (.ref 39), some (.int a1), some (.int a2), some (.int a3), some (.int a4), none, none, none, none, none, none, none]) (by decide +kernel) (by simp [Value.category]) rfl ?_
  refine WP.blk [(.iload_n 1, 1, (0, 0), .null)] (G := True) (c' := (1, [some (.ref 39), some (.int a1), some (.int a2), some (.int a3), some (.int a4), none, none, none, none, none, none, none], [.int a1], M)) (by decide +kernel) rfl trivial ?_
  refine WP.call (.invokestatic 57, 3, (134, 1), .null) (by decide +kernel) rfl (sp_R_isRow (d := d + 1) h (fun r1 h => ?_))
  show WP (Ct (d + 3)) 189 Post (4, [some (.ref 39), some (.int a1), some (.int a2), some (.int a3), some (.int a4), none, none, none, none, none, none, none], [.int r1], M)
  refine WP.br (.ifCond .eq 23, 3, (27, 0), .null) (by decide +kernel) rfl (fun c2 => ?_) (fun c2 => ?_)
  · replace h := h.1 c2
    refine WP.blk [(.ldc 61, 2, (0, 0), .int (-1000001))] (G := True) (c' := (29, [some (.ref 39), some (.int a1), some (.int a2), some (.int a3), some (.int a4), none, none, none, none, none, none, none], [.int (-1000001)], M)) (by decide +kernel) rfl trivial ?_
    exact WP.ret (.ireturn, 1, (0, 0), .null) (rk := 1) (by decide +kernel) (by decide +kernel) rfl trivial (hΦ _ _ h)
  · replace h := h.2 c2
    refine WP.blk [(.iload_n 3, 1, (0, 0), .null), (.iconst 1, 1, (0, 0), .int 1), (.bipush 6, 2, (0, 0), .int 6)] (G := True) (c' := (11, [some (.ref 39), some (.int a1), some (.int a2), some (.int a3), some (.int a4), none, none, none, none, none, none, none], [.int 6, .int 1, .int a3], M)) (by decide +kernel) rfl trivial ?_
    refine WP.call (.invokestatic 53, 3, (135, 3), .null) (by decide +kernel) rfl (sp_R_in (d := d + 2) h (fun r3 h => ?_))
    show WP (Ct (d + 3)) 189 Post (14, [some (.ref 39), some (.int a1), some (.int a2), some (.int a3), some (.int a4), none, none, none, none, none, none, none], [.int r3], M)
    refine WP.br (.ifCond .eq 13, 3, (27, 0), .null) (by decide +kernel) rfl (fun c4 => ?_) (fun c4 => ?_)
    · replace h := h.1 c4
      refine WP.blk [(.ldc 61, 2, (0, 0), .int (-1000001))] (G := True) (c' := (29, [some (.ref 39), some (.int a1), some (.int a2), some (.int a3), some (.int a4), none, none, none, none, none, none, none], [.int (-1000001)], M)) (by decide +kernel) rfl trivial ?_
      exact WP.ret (.ireturn, 1, (0, 0), .null) (rk := 1) (by decide +kernel) (by decide +kernel) rfl trivial (hΦ _ _ h)
    · replace h := h.2 c4
      refine WP.blk [(.iload 4, 2, (0, 0), .null), (.iconst 0, 1, (0, 0), .int 0), (.iconst 4, 1, (0, 0), .int 4)] (G := True) (c' := (21, [some (.ref 39), some (.int a1), some (.int a2), some (.int a3), some (.int a4), none, none, none, none, none, none, none], [.int 4, .int 0, .int a4], M)) (by decide +kernel) rfl trivial ?_
      refine WP.call (.invokestatic 53, 3, (135, 3), .null) (by decide +kernel) rfl (sp_R_in (d := d + 2) h (fun r5 h => ?_))
      show WP (Ct (d + 3)) 189 Post (24, [some (.ref 39), some (.int a1), some (.int a2), some (.int a3), some (.int a4), none, none, none, none, none, none, none], [.int r5], M)
      refine WP.br (.ifCond .ne 6, 3, (30, 0), .null) (by decide +kernel) rfl (fun c6 => ?_) (fun c6 => ?_)
      · replace h := h.2 c6
        refine WP.blk [(.aload_n 0, 1, (0, 0), .null), (.getfield 136, 3, (7, 5), .null)] (G := True) (c' := (34, [some (.ref 39), some (.int a1), some (.int a2), some (.int a3), some (.int a4), none, none, none, none, none, none, none], [.int (M 39 5)], M)) (by decide +kernel) rfl trivial ?_
        refine WP.br (.ifCond .ne 6, 3, (40, 0), .null) (by decide +kernel) rfl (fun c7 => ?_) (fun c7 => ?_)
        · replace h := h.2 c7
          refine WP.blk [(.aload_n 0, 1, (0, 0), .null), (.getfield 7, 3, (7, 0), .null), (.iload_n 1, 1, (0, 0), .null), (.iaload, 1, (0, 0), .null)] (G := vp_in a1 8 ∧ True) (c' := (46, [some (.ref 39), some (.int a1), some (.int a2), some (.int a3), some (.int a4), none, none, none, none, none, none, none], [.int (M 40 (Int32.toNatClampNeg a1))], M)) (by decide +kernel) rfl ⟨h.1, trivial⟩ ?_
          replace h := h.2
          refine WP.br (.ifCond .ge 9, 3, (55, 0), .null) (by decide +kernel) rfl (fun c8 => ?_) (fun c8 => ?_)
          · replace h := h.1 c8
            refine WP.blk [(.aload_n 0, 1, (0, 0), .null), (.iload_n 1, 1, (0, 0), .null), (.iload_n 2, 1, (0, 0), .null), (.iload_n 3, 1, (0, 0), .null)] (G := True) (c' := (59, [some (.ref 39), some (.int a1), some (.int a2), some (.int a3), some (.int a4), none, none, none, none, none, none, none], [.int a3, .int a2, .int a1, .ref 39], M)) (by decide +kernel) rfl trivial ?_
            refine WP.call (.invokevirtual 73, 3, (141, 4), .retAddr 7) (by decide +kernel) rfl (sp_R_areIn (d := d + 2) h (fun r9 h => ?_))
            show WP (Ct (d + 3)) 189 Post (62, [some (.ref 39), some (.int a1), some (.int a2), some (.int a3), some (.int a4), none, none, none, none, none, none, none], [.int r9], M)
            refine WP.br (.ifCond .ne 9, 3, (71, 0), .null) (by decide +kernel) rfl (fun c10 => ?_) (fun c10 => ?_)
            · replace h := h.2 c10
              refine WP.blk [(.iload 4, 2, (0, 0), .null)] (G := True) (c' := (73, [some (.ref 39), some (.int a1), some (.int a2), some (.int a3), some (.int a4), none, none, none, none, none, none, none], [.int a4], M)) (by decide +kernel) rfl trivial ?_
              refine WP.br (.ifCond .ne 7, 3, (80, 0), .null) (by decide +kernel) rfl (fun c11 => ?_) (fun c11 => ?_)
              · replace h := h.2 c11
                refine WP.blk [(.iload 4, 2, (0, 0), .null), (.iconst 3, 1, (0, 0), .int 3)] (G := True) (c' := (83, [some (.ref 39), some (.int a1), some (.int a2), some (.int a3), some (.int a4), none, none, none, none, none, none, none], [.int 3, .int a4], M)) (by decide +kernel) rfl trivial ?_
                refine WP.br (.if_icmp .ge 8, 3, (91, 0), .null) (by decide +kernel) rfl (fun c12 => ?_) (fun c12 => ?_)
                · replace h := h.1 c12
                  refine WP.blk [(.iconst 1, 1, (0, 0), .int 1)] (G := True) (c' := (92, [some (.ref 39), some (.int a1), some (.int a2), some (.int a3), some (.int a4), none, none, none, none, none, none, none], [.int 1], M)) (by decide +kernel) rfl trivial ?_
                  exact L_R_fits_92 hΦ _ _ _ _ _ _ h
                · replace h := h.2 c12
                  refine WP.blk [(.bipush 10, 2, (0, 0), .int 10), (.goto 4, 3, (92, 0), .null)] (G := True) (c' := (92, [some (.ref 39), some (.int a1), some (.int a2), some (.int a3), some (.int a4), none, none, none, none, none, none, none], [.int 10], M)) (by decide +kernel) rfl trivial ?_
                  exact L_R_fits_92 hΦ _ _ _ _ _ _ h
              · replace h := h.1 (Classical.not_not.mp c11)
                refine WP.blk [(.iconst 1, 1, (0, 0), .int 1), (.goto 15, 3, (92, 0), .null)] (G := True) (c' := (92, [some (.ref 39), some (.int a1), some (.int a2), some (.int a3), some (.int a4), none, none, none, none, none, none, none], [.int 1], M)) (by decide +kernel) rfl trivial ?_
                exact L_R_fits_92 hΦ _ _ _ _ _ _ h
            · replace h := h.1 (Classical.not_not.mp c10)
              refine WP.blk [(.aload_n 0, 1, (0, 0), .null), (.iconst 2, 1, (0, 0), .int 2)] (G := True) (c' := (67, [some (.ref 39), some (.int a1), some (.int a2), some (.int a3), some (.int a4), none, none, none, none, none, none, none], [.int 2, .ref 39], M)) (by decide +kernel) rfl trivial ?_
              refine WP.call (.invokevirtual 62, 3, (136, 2), .retAddr 7) (by decide +kernel) rfl (sp_R_found (d := d + 2) h (fun r13 M13 h => ?_))
              show WP (Ct (d + 3)) 189 Post (70, [some (.ref 39), some (.int a1), some (.int a2), some (.int a3), some (.int a4), none, none, none, none, none, none, none], [.int r13], M13)
              exact WP.ret (.ireturn, 1, (0, 0), .null) (rk := 1) (by decide +kernel) (by decide +kernel) rfl trivial (hΦ _ _ h)
          · replace h := h.2 c8
            refine WP.blk [(.aload_n 0, 1, (0, 0), .null), (.iconst 1, 1, (0, 0), .int 1)] (G := True) (c' := (51, [some (.ref 39), some (.int a1), some (.int a2), some (.int a3), some (.int a4), none, none, none, none, none, none, none], [.int 1, .ref 39], M)) (by decide +kernel) rfl trivial ?_
            refine WP.call (.invokevirtual 62, 3, (136, 2), .retAddr 7) (by decide +kernel) rfl (sp_R_found (d := d + 2) h (fun r14 M14 h => ?_))
            show WP (Ct (d + 3)) 189 Post (54, [some (.ref 39), some (.int a1), some (.int a2), some (.int a3), some (.int a4), none, none, none, none, none, none, none], [.int r14], M14)
            exact WP.ret (.ireturn, 1, (0, 0), .null) (rk := 1) (by decide +kernel) (by decide +kernel) rfl trivial (hΦ _ _ h)
        · replace h := h.1 (Classical.not_not.mp c7)
          refine WP.blk [(.ldc 154, 2, (0, 0), .int (-1000002))] (G := True) (c' := (39, [some (.ref 39), some (.int a1), some (.int a2), some (.int a3), some (.int a4), none, none, none, none, none, none, none], [.int (-1000002)], M)) (by decide +kernel) rfl trivial ?_
          exact WP.ret (.ireturn, 1, (0, 0), .null) (rk := 1) (by decide +kernel) (by decide +kernel) rfl trivial (hΦ _ _ h)
      · replace h := h.1 (Classical.not_not.mp c6)
        refine WP.blk [(.ldc 61, 2, (0, 0), .int (-1000001))] (G := True) (c' := (29, [some (.ref 39), some (.int a1), some (.int a2), some (.int a3), some (.int a4), none, none, none, none, none, none, none], [.int (-1000001)], M)) (by decide +kernel) rfl trivial ?_
        exact WP.ret (.ireturn, 1, (0, 0), .null) (rk := 1) (by decide +kernel) (by decide +kernel) rfl trivial (hΦ _ _ h)
/-- GearRoadModel.chance(II)I -/
def D_R_chance_172 (M : Mm) (Φ : Int32 → Prop) (rec_172 : Int32 × Int32 × Int32 × Int32 × Int32 → Prop) : Int32 × Int32 × Int32 × Int32 × Int32 → Prop
  | (x1, x2, x3, x4, x5) => ((x5 = 0 → ((x1 = 0 → ¬ x4 = 0 ∧ Φ (x2 / x4)) ∧ (¬ (x1 = 0) → ¬ x4 = 0 ∧ Φ (x3 / x4)))) ∧ (¬ (x5 = 0) → ¬ x5 = 0 ∧ rec_172 (x1, x2, x3, x5, (irm x4 x5))))
def D_R_chance_149 (M : Mm) (Φ : Int32 → Prop) (rec_46 : Int32 × Int32 × Int32 × Int32 × Int32 → Prop) : Int32 × Int32 × Int32 × Int32 × Int32 × Int32 × Int32 → Prop
  | (x1, x2, x3, x4, x5, x6, x7) => rec_46 (x1, x2, (x7 * (x6 + x5)), (x3 * 10), (x4 + 1))
def D_R_chance_119 (M : Mm) (Φ : Int32 → Prop) (rec_46 : Int32 × Int32 × Int32 × Int32 × Int32 → Prop) : Int32 × Int32 × Int32 × Int32 × Int32 × Int32 × Int32 → Prop
  | (x1, x2, x3, x4, x5, x6, x7) => S_R_gearOf 44 M (fun r8 => S_R_loadOf 44 M r8 x5 (fun r9 => (((M 44 (Int32.toNatClampNeg 0)) < r9 → D_R_chance_149 M Φ rec_46 (x1, x2, x3, x4, 0, x6, x7)) ∧ (¬ ((M 44 (Int32.toNatClampNeg 0)) < r9) → D_R_chance_149 M Φ rec_46 (x1, x2, x3, x4, x1, x6, x7)))))
def D_R_chance_89 (M : Mm) (Φ : Int32 → Prop) (rec_46 : Int32 × Int32 × Int32 × Int32 × Int32 → Prop) : Int32 × Int32 × Int32 × Int32 × Int32 × Int32 → Prop
  | (x1, x2, x3, x4, x5, x6) => S_R_gearOf 44 M (fun r7 => S_R_bears 44 M r7 x5 (fun r8 => ((r8 = 0 → D_R_chance_119 M Φ rec_46 (x1, x2, x4, x5, x6, 0, x3)) ∧ (¬ (r8 = 0) → D_R_chance_119 M Φ rec_46 (x1, x2, x4, x5, x6, (10 - x1), x3)))))
def D_R_chance_46 (M : Mm) (Φ : Int32 → Prop) (rec_46 : Int32 × Int32 × Int32 × Int32 × Int32 → Prop) : Int32 × Int32 × Int32 × Int32 × Int32 → Prop
  | (x1, x2, x3, x4, x5) => (((M 44 (Int32.toNatClampNeg 3)) ≤ x5 → ∃ n, lp (D_R_chance_172 M Φ) n (x2, x3, x4, x3, x4)) ∧ (¬ ((M 44 (Int32.toNatClampNeg 3)) ≤ x5) → vp_in (23 + x5) 35 ∧ (((M 44 (Int32.toNatClampNeg (23 + x5))) ≤ 6 → vp_in (23 + x5) 35 ∧ D_R_chance_89 M Φ rec_46 (x1, x2, x3, x4, x5, ((M 44 (Int32.toNatClampNeg (23 + x5))) + 3))) ∧ (¬ ((M 44 (Int32.toNatClampNeg (23 + x5))) ≤ 6) → D_R_chance_89 M Φ rec_46 (x1, x2, x3, x4, x5, 9)))))
def S_R_chance (M : Mm) (a1 : Int32) (a2 : Int32) (Φ : Int32 → Prop) : Prop := (((M 39 5) = 0 → Φ (-1000002)) ∧ (¬ ((M 39 5) = 0) → S_R_in M a1 0 10 (fun r2 => ((r2 = 0 → Φ (-1000001)) ∧ (¬ (r2 = 0) → S_R_in M a2 0 1 (fun r4 => ((r4 = 0 → Φ (-1000001)) ∧ (¬ (r4 = 0) → ∃ n, lp (D_R_chance_46 M Φ) n (a1, a2, 1, 1, (M 44 (Int32.toNatClampNeg 6)))))))))))
set_option maxRecDepth 100000 in
set_option maxHeartbeats 4000000 in
theorem L_R_chance_172 {d : Nat} {Post : Option Value → Mm → Prop} {M : Mm} {rec_172 : Int32 × Int32 × Int32 × Int32 × Int32 → Prop} {Φ : Int32 → Prop} (hΦ : ∀ r, Φ r → Post (some (.int r)) M) (hrec_172 : ∀ (x1 : Int32) (x2 : Int32) (x3 : Int32) (x4 : Int32) (x5 : Int32), rec_172 (x1, x2, x3, x4, x5) → WP (Ct (d + 2)) 192 Post (172, [none, none, some (.int x1), some (.int x2), some (.int x3), some (.int x4), some (.int x5), none], [], M)) : ∀ (x1 : Int32) (x2 : Int32) (x3 : Int32) (x4 : Int32) (x5 : Int32), D_R_chance_172 M Φ rec_172 (x1, x2, x3, x4, x5) → WP (Ct (d + 2)) 192 Post (172, [none, none, some (.int x1), some (.int x2), some (.int x3), some (.int x4), some (.int x5), none], [], M) := by
  intro x1 x2 x3 x4 x5 h
  replace h : ((x5 = 0 → ((x1 = 0 → ¬ x4 = 0 ∧ Φ (x2 / x4)) ∧ (¬ (x1 = 0) → ¬ x4 = 0 ∧ Φ (x3 / x4)))) ∧ (¬ (x5 = 0) → ¬ x5 = 0 ∧ rec_172 (x1, x2, x3, x5, (irm x4 x5)))) := h
  refine WP.blk [(.iload 6, 2, (0, 0), .null)] (G := True) (c' := (174, [none, none, some (.int x1), some (.int x2), some (.int x3), some (.int x4), some (.int x5), none], [.int x5], M)) (by decide +kernel) rfl trivial ?_
  refine WP.br (.ifCond .eq 21, 3, (195, 0), .null) (by decide +kernel) rfl (fun c6 => ?_) (fun c6 => ?_)
  · replace h := h.1 c6
    refine WP.blk [(.iload_n 2, 1, (0, 0), .null)] (G := True) (c' := (196, [none, none, some (.int x1), some (.int x2), some (.int x3), some (.int x4), some (.int x5), none], [.int x1], M)) (by decide +kernel) rfl trivial ?_
    refine WP.br (.ifCond .ne 10, 3, (206, 0), .null) (by decide +kernel) rfl (fun c7 => ?_) (fun c7 => ?_)
    · replace h := h.2 c7
      refine WP.blk [(.iload 4, 2, (0, 0), .null), (.iload 5, 2, (0, 0), .null), (.idiv, 1, (0, 0), .null)] (G := ¬ x4 = 0 ∧ True) (c' := (211, [none, none, some (.int x1), some (.int x2), some (.int x3), some (.int x4), some (.int x5), none], [.int (x3 / x4)], M)) (by decide +kernel) rfl ⟨h.1, trivial⟩ ?_
      replace h := h.2
      exact WP.ret (.ireturn, 1, (0, 0), .null) (rk := 1) (by decide +kernel) (by decide +kernel) rfl trivial (hΦ _ h)
    · replace h := h.1 (Classical.not_not.mp c7)
      refine WP.blk [(.iload_n 3, 1, (0, 0), .null), (.iload 5, 2, (0, 0), .null), (.idiv, 1, (0, 0), .null), (.goto 8, 3, (211, 0), .null)] (G := ¬ x4 = 0 ∧ True) (c' := (211, [none, none, some (.int x1), some (.int x2), some (.int x3), some (.int x4), some (.int x5), none], [.int (x2 / x4)], M)) (by decide +kernel) rfl ⟨h.1, trivial⟩ ?_
      replace h := h.2
      exact WP.ret (.ireturn, 1, (0, 0), .null) (rk := 1) (by decide +kernel) (by decide +kernel) rfl trivial (hΦ _ h)
  · replace h := h.2 c6
    refine WP.blk [(.iload 5, 2, (0, 0), .null), (.iload 6, 2, (0, 0), .null), (.irem, 1, (0, 0), .null), (.istore 7, 2, (0, 0), .null), (.iload 6, 2, (0, 0), .null), (.istore 5, 2, (0, 0), .null), (.iload 7, 2, (0, 0), .null), (.istore 6, 2, (0, 0), .null), (.goto (-20), 3, (172, 0), .null)] (G := ¬ x5 = 0 ∧ True) (c' := (172, [none, none, some (.int x1), some (.int x2), some (.int x3), some (.int x5), some (.int (irm x4 x5)), some (.int (irm x4 x5))], [], M)) (by decide +kernel) rfl ⟨h.1, trivial⟩ ?_
    replace h := h.2
    refine WP.fgt [none, none, some (.int x1), some (.int x2), some (.int x3), some (.int x5), some (.int (irm x4 x5)), none] (by simp [fgt]) ?_
    exact hrec_172 _ _ _ _ _ h
theorem P_R_chance_172 {d : Nat} {Post : Option Value → Mm → Prop} {M : Mm} {Φ : Int32 → Prop} (hΦ : ∀ r, Φ r → Post (some (.int r)) M) : ∀ (n : Nat) (x1 : Int32) (x2 : Int32) (x3 : Int32) (x4 : Int32) (x5 : Int32), lp (D_R_chance_172 M Φ) n (x1, x2, x3, x4, x5) → WP (Ct (d + 2)) 192 Post (172, [none, none, some (.int x1), some (.int x2), some (.int x3), some (.int x4), some (.int x5), none], [], M)
  | 0, x1, x2, x3, x4, x5, h => absurd h (by simp [lp])
  | n + 1, x1, x2, x3, x4, x5, h => L_R_chance_172 hΦ (P_R_chance_172 hΦ n) x1 x2 x3 x4 x5 h
set_option maxRecDepth 100000 in
set_option maxHeartbeats 4000000 in
theorem L_R_chance_149 {d : Nat} {Post : Option Value → Mm → Prop} {M : Mm} {rec_46 : Int32 × Int32 × Int32 × Int32 × Int32 → Prop} {Φ : Int32 → Prop} (hΦ : ∀ r, Φ r → Post (some (.int r)) M) (hrec_46 : ∀ (x1 : Int32) (x2 : Int32) (x3 : Int32) (x4 : Int32) (x5 : Int32), rec_46 (x1, x2, x3, x4, x5) → WP (Ct (d + 2)) 192 Post (46, [some (.ref 39), some (.int x1), some (.int x2), some (.int x3), some (.int x4), some (.int x5), none, none], [], M)) : ∀ (x1 : Int32) (x2 : Int32) (x3 : Int32) (x4 : Int32) (x5 : Int32) (x6 : Int32) (x7 : Int32), D_R_chance_149 M Φ rec_46 (x1, x2, x3, x4, x5, x6, x7) → WP (Ct (d + 2)) 192 Post (149, [some (.ref 39), some (.int x1), some (.int x2), none, some (.int x3), some (.int x4), none, none], [.int x5, .int x6, .int x7], M) := by
  intro x1 x2 x3 x4 x5 x6 x7 h
  replace h : rec_46 (x1, x2, (x7 * (x6 + x5)), (x3 * 10), (x4 + 1)) := h
  refine WP.blk [(.iadd, 1, (0, 0), .null), (.imul, 1, (0, 0), .null), (.istore_n 3, 1, (0, 0), .null), (.iload 4, 2, (0, 0), .null), (.bipush 10, 2, (0, 0), .int 10), (.imul, 1, (0, 0), .null), (.istore 4, 2, (0, 0), .null), (.iinc 5 1, 3, (0, 0), .int 1), (.goto (-116), 3, (46, 0), .null)] (G := True) (c' := (46, [some (.ref 39), some (.int x1), some (.int x2), some (.int (x7 * (x6 + x5))), some (.int (x3 * 10)), some (.int (x4 + 1)), none, none], [], M)) (by decide +kernel) rfl trivial ?_
  exact hrec_46 _ _ _ _ _ h
set_option maxRecDepth 100000 in
set_option maxHeartbeats 4000000 in
theorem L_R_chance_119 {d : Nat} {Post : Option Value → Mm → Prop} {M : Mm} {rec_46 : Int32 × Int32 × Int32 × Int32 × Int32 → Prop} {Φ : Int32 → Prop} (hΦ : ∀ r, Φ r → Post (some (.int r)) M) (hrec_46 : ∀ (x1 : Int32) (x2 : Int32) (x3 : Int32) (x4 : Int32) (x5 : Int32), rec_46 (x1, x2, x3, x4, x5) → WP (Ct (d + 2)) 192 Post (46, [some (.ref 39), some (.int x1), some (.int x2), some (.int x3), some (.int x4), some (.int x5), none, none], [], M)) : ∀ (x1 : Int32) (x2 : Int32) (x3 : Int32) (x4 : Int32) (x5 : Int32) (x6 : Int32) (x7 : Int32), D_R_chance_119 M Φ rec_46 (x1, x2, x3, x4, x5, x6, x7) → WP (Ct (d + 2)) 192 Post (119, [some (.ref 39), some (.int x1), some (.int x2), none, some (.int x3), some (.int x4), some (.int x5), none], [.int x6, .int x7], M) := by
  intro x1 x2 x3 x4 x5 x6 x7 h
  replace h : S_R_gearOf 44 M (fun r8 => S_R_loadOf 44 M r8 x5 (fun r9 => (((M 44 (Int32.toNatClampNeg 0)) < r9 → D_R_chance_149 M Φ rec_46 (x1, x2, x3, x4, 0, x6, x7)) ∧ (¬ ((M 44 (Int32.toNatClampNeg 0)) < r9) → D_R_chance_149 M Φ rec_46 (x1, x2, x3, x4, x1, x6, x7))))) := h
  refine WP.blk [(.aload_n 0, 1, (0, 0), .null), (.getfield 22, 3, (7, 6), .null), (.aload_n 0, 1, (0, 0), .null), (.getfield 22, 3, (7, 6), .null)] (G := True) (c' := (127, [some (.ref 39), some (.int x1), some (.int x2), none, some (.int x3), some (.int x4), some (.int x5), none], [.ref 44, .ref 44, .int x6, .int x7], M)) (by decide +kernel) rfl trivial ?_
  refine WP.call (.invokestatic 146, 3, (157, 1), .null) (by decide +kernel) rfl (sp_R_gearOf (d := d + 1) (by decide) h (fun r8 h => ?_))
  show WP (Ct (d + 2)) 192 Post (130, [some (.ref 39), some (.int x1), some (.int x2), none, some (.int x3), some (.int x4), some (.int x5), none], [.int r8, .ref 44, .int x6, .int x7], M)
  refine WP.blk [(.iload 6, 2, (0, 0), .null)] (G := True) (c' := (132, [some (.ref 39), some (.int x1), some (.int x2), none, some (.int x3), some (.int x4), some (.int x5), none], [.int x5, .int r8, .ref 44, .int x6, .int x7], M)) (by decide +kernel) rfl trivial ?_
  refine WP.call (.invokestatic 79, 3, (159, 3), .null) (by decide +kernel) rfl (sp_R_loadOf (d := d + 1) (by decide) h (fun r9 h => ?_))
  show WP (Ct (d + 2)) 192 Post (135, [some (.ref 39), some (.int x1), some (.int x2), none, some (.int x3), some (.int x4), some (.int x5), none], [.int r9, .int x6, .int x7], M)
  refine WP.blk [(.aload_n 0, 1, (0, 0), .null), (.getfield 22, 3, (7, 6), .null), (.iconst 0, 1, (0, 0), .int 0), (.iaload, 1, (0, 0), .null)] (G := vp_in 0 35 ∧ True) (c' := (141, [some (.ref 39), some (.int x1), some (.int x2), none, some (.int x3), some (.int x4), some (.int x5), none], [.int (M 44 (Int32.toNatClampNeg 0)), .int r9, .int x6, .int x7], M)) (by decide +kernel) rfl ⟨(vp_lit (by decide)), trivial⟩ ?_
  refine WP.br (.if_icmp .gt 7, 3, (148, 0), .null) (by decide +kernel) rfl (fun c10 => ?_) (fun c10 => ?_)
  · replace h := h.1 c10
    refine WP.blk [(.iconst 0, 1, (0, 0), .int 0)] (G := True) (c' := (149, [some (.ref 39), some (.int x1), some (.int x2), none, some (.int x3), some (.int x4), some (.int x5), none], [.int 0, .int x6, .int x7], M)) (by decide +kernel) rfl trivial ?_
    refine WP.fgt [some (.ref 39), some (.int x1), some (.int x2), none, some (.int x3), some (.int x4), none, none] (by simp [fgt]) ?_
    exact L_R_chance_149 hΦ hrec_46 _ _ _ _ _ _ _ h
  · replace h := h.2 c10
    refine WP.blk [(.iload_n 1, 1, (0, 0), .null), (.goto 4, 3, (149, 0), .null)] (G := True) (c' := (149, [some (.ref 39), some (.int x1), some (.int x2), none, some (.int x3), some (.int x4), some (.int x5), none], [.int x1, .int x6, .int x7], M)) (by decide +kernel) rfl trivial ?_
    refine WP.fgt [some (.ref 39), some (.int x1), some (.int x2), none, some (.int x3), some (.int x4), none, none] (by simp [fgt]) ?_
    exact L_R_chance_149 hΦ hrec_46 _ _ _ _ _ _ _ h
set_option maxRecDepth 100000 in
set_option maxHeartbeats 4000000 in
theorem L_R_chance_89 {d : Nat} {Post : Option Value → Mm → Prop} {M : Mm} {rec_46 : Int32 × Int32 × Int32 × Int32 × Int32 → Prop} {Φ : Int32 → Prop} (hΦ : ∀ r, Φ r → Post (some (.int r)) M) (hrec_46 : ∀ (x1 : Int32) (x2 : Int32) (x3 : Int32) (x4 : Int32) (x5 : Int32), rec_46 (x1, x2, x3, x4, x5) → WP (Ct (d + 2)) 192 Post (46, [some (.ref 39), some (.int x1), some (.int x2), some (.int x3), some (.int x4), some (.int x5), none, none], [], M)) : ∀ (x1 : Int32) (x2 : Int32) (x3 : Int32) (x4 : Int32) (x5 : Int32) (x6 : Int32), D_R_chance_89 M Φ rec_46 (x1, x2, x3, x4, x5, x6) → WP (Ct (d + 2)) 192 Post (89, [some (.ref 39), some (.int x1), some (.int x2), some (.int x3), some (.int x4), some (.int x5), none, none], [.int x6], M) := by
  intro x1 x2 x3 x4 x5 x6 h
  replace h : S_R_gearOf 44 M (fun r7 => S_R_bears 44 M r7 x5 (fun r8 => ((r8 = 0 → D_R_chance_119 M Φ rec_46 (x1, x2, x4, x5, x6, 0, x3)) ∧ (¬ (r8 = 0) → D_R_chance_119 M Φ rec_46 (x1, x2, x4, x5, x6, (10 - x1), x3))))) := h
  refine WP.blk [(.istore 6, 2, (0, 0), .null), (.iload_n 3, 1, (0, 0), .null), (.aload_n 0, 1, (0, 0), .null), (.getfield 22, 3, (7, 6), .null), (.aload_n 0, 1, (0, 0), .null), (.getfield 22, 3, (7, 6), .null)] (G := True) (c' := (100, [some (.ref 39), some (.int x1), some (.int x2), some (.int x3), some (.int x4), some (.int x5), some (.int x6), none], [.ref 44, .ref 44, .int x3], M)) (by decide +kernel) rfl trivial ?_
  refine WP.call (.invokestatic 146, 3, (157, 1), .null) (by decide +kernel) rfl (sp_R_gearOf (d := d + 1) (by decide) h (fun r7 h => ?_))
  show WP (Ct (d + 2)) 192 Post (103, [some (.ref 39), some (.int x1), some (.int x2), some (.int x3), some (.int x4), some (.int x5), some (.int x6), none], [.int r7, .ref 44, .int x3], M)
  refine WP.blk [(.iload 5, 2, (0, 0), .null)] (G := True) (c' := (105, [some (.ref 39), some (.int x1), some (.int x2), some (.int x3), some (.int x4), some (.int x5), some (.int x6), none], [.int x5, .int r7, .ref 44, .int x3], M)) (by decide +kernel) rfl trivial ?_
  refine WP.call (.invokestatic 150, 3, (158, 3), .null) (by decide +kernel) rfl (sp_R_bears (d := d + 0) (by decide) h (fun r8 h => ?_))
  show WP (Ct (d + 2)) 192 Post (108, [some (.ref 39), some (.int x1), some (.int x2), some (.int x3), some (.int x4), some (.int x5), some (.int x6), none], [.int r8, .int x3], M)
  refine WP.br (.ifCond .eq 10, 3, (118, 0), .null) (by decide +kernel) rfl (fun c9 => ?_) (fun c9 => ?_)
  · replace h := h.1 c9
    refine WP.blk [(.iconst 0, 1, (0, 0), .int 0)] (G := True) (c' := (119, [some (.ref 39), some (.int x1), some (.int x2), some (.int x3), some (.int x4), some (.int x5), some (.int x6), none], [.int 0, .int x3], M)) (by decide +kernel) rfl trivial ?_
    refine WP.fgt [some (.ref 39), some (.int x1), some (.int x2), none, some (.int x4), some (.int x5), some (.int x6), none] (by simp [fgt]) ?_
    exact L_R_chance_119 hΦ hrec_46 _ _ _ _ _ _ _ h
  · replace h := h.2 c9
    refine WP.blk [(.bipush 10, 2, (0, 0), .int 10), (.iload_n 1, 1, (0, 0), .null), (.isub, 1, (0, 0), .null), (.goto 4, 3, (119, 0), .null)] (G := True) (c' := (119, [some (.ref 39), some (.int x1), some (.int x2), some (.int x3), some (.int x4), some (.int x5), some (.int x6), none], [.int (10 - x1), .int x3], M)) (by decide +kernel) rfl trivial ?_
    refine WP.fgt [some (.ref 39), some (.int x1), some (.int x2), none, some (.int x4), some (.int x5), some (.int x6), none] (by simp [fgt]) ?_
    exact L_R_chance_119 hΦ hrec_46 _ _ _ _ _ _ _ h
set_option maxRecDepth 100000 in
set_option maxHeartbeats 4000000 in
theorem L_R_chance_46 {d : Nat} {Post : Option Value → Mm → Prop} {M : Mm} {rec_46 : Int32 × Int32 × Int32 × Int32 × Int32 → Prop} {Φ : Int32 → Prop} (hΦ : ∀ r, Φ r → Post (some (.int r)) M) (hrec_46 : ∀ (x1 : Int32) (x2 : Int32) (x3 : Int32) (x4 : Int32) (x5 : Int32), rec_46 (x1, x2, x3, x4, x5) → WP (Ct (d + 2)) 192 Post (46, [some (.ref 39), some (.int x1), some (.int x2), some (.int x3), some (.int x4), some (.int x5), none, none], [], M)) : ∀ (x1 : Int32) (x2 : Int32) (x3 : Int32) (x4 : Int32) (x5 : Int32), D_R_chance_46 M Φ rec_46 (x1, x2, x3, x4, x5) → WP (Ct (d + 2)) 192 Post (46, [some (.ref 39), some (.int x1), some (.int x2), some (.int x3), some (.int x4), some (.int x5), none, none], [], M) := by
  intro x1 x2 x3 x4 x5 h
  replace h : (((M 44 (Int32.toNatClampNeg 3)) ≤ x5 → ∃ n, lp (D_R_chance_172 M Φ) n (x2, x3, x4, x3, x4)) ∧ (¬ ((M 44 (Int32.toNatClampNeg 3)) ≤ x5) → vp_in (23 + x5) 35 ∧ (((M 44 (Int32.toNatClampNeg (23 + x5))) ≤ 6 → vp_in (23 + x5) 35 ∧ D_R_chance_89 M Φ rec_46 (x1, x2, x3, x4, x5, ((M 44 (Int32.toNatClampNeg (23 + x5))) + 3))) ∧ (¬ ((M 44 (Int32.toNatClampNeg (23 + x5))) ≤ 6) → D_R_chance_89 M Φ rec_46 (x1, x2, x3, x4, x5, 9))))) := h
  refine WP.blk [(.iload 5, 2, (0, 0), .null), (.aload_n 0, 1, (0, 0), .null), (.getfield 22, 3, (7, 6), .null), (.iconst 3, 1, (0, 0), .int 3), (.iaload, 1, (0, 0), .null)] (G := vp_in 3 35 ∧ True) (c' := (54, [some (.ref 39), some (.int x1), some (.int x2), some (.int x3), some (.int x4), some (.int x5), none, none], [.int (M 44 (Int32.toNatClampNeg 3)), .int x5], M)) (by decide +kernel) rfl ⟨(vp_lit (by decide)), trivial⟩ ?_
  refine WP.br (.if_icmp .ge 111, 3, (165, 0), .null) (by decide +kernel) rfl (fun c6 => ?_) (fun c6 => ?_)
  · replace h := h.1 c6
    refine WP.blk [(.iload_n 3, 1, (0, 0), .null), (.istore 5, 2, (0, 0), .null), (.iload 4, 2, (0, 0), .null), (.istore 6, 2, (0, 0), .null)] (G := True) (c' := (172, [some (.ref 39), some (.int x1), some (.int x2), some (.int x3), some (.int x4), some (.int x3), some (.int x4), none], [], M)) (by decide +kernel) rfl trivial ?_
    refine WP.fgt [none, none, some (.int x2), some (.int x3), some (.int x4), some (.int x3), some (.int x4), none] (by simp [fgt]) ?_
    obtain ⟨n, h⟩ := h
    exact P_R_chance_172 hΦ n _ _ _ _ _ h
  · replace h := h.2 c6
    refine WP.blk [(.aload_n 0, 1, (0, 0), .null), (.getfield 22, 3, (7, 6), .null), (.bipush 23, 2, (0, 0), .int 23), (.iload 5, 2, (0, 0), .null), (.iadd, 1, (0, 0), .null), (.iaload, 1, (0, 0), .null), (.bipush 6, 2, (0, 0), .int 6)] (G := vp_in (23 + x5) 35 ∧ True) (c' := (69, [some (.ref 39), some (.int x1), some (.int x2), some (.int x3), some (.int x4), some (.int x5), none, none], [.int 6, .int (M 44 (Int32.toNatClampNeg (23 + x5)))], M)) (by decide +kernel) rfl ⟨h.1, trivial⟩ ?_
    replace h := h.2
    refine WP.br (.if_icmp .le 8, 3, (77, 0), .null) (by decide +kernel) rfl (fun c7 => ?_) (fun c7 => ?_)
    · replace h := h.1 c7
      refine WP.blk [(.aload_n 0, 1, (0, 0), .null), (.getfield 22, 3, (7, 6), .null), (.bipush 23, 2, (0, 0), .int 23), (.iload 5, 2, (0, 0), .null), (.iadd, 1, (0, 0), .null), (.iaload, 1, (0, 0), .null), (.iconst 3, 1, (0, 0), .int 3), (.iadd, 1, (0, 0), .null)] (G := vp_in (23 + x5) 35 ∧ True) (c' := (89, [some (.ref 39), some (.int x1), some (.int x2), some (.int x3), some (.int x4), some (.int x5), none, none], [.int ((M 44 (Int32.toNatClampNeg (23 + x5))) + 3)], M)) (by decide +kernel) rfl ⟨h.1, trivial⟩ ?_
      replace h := h.2
      exact L_R_chance_89 hΦ hrec_46 _ _ _ _ _ _ h
    · replace h := h.2 c7
      refine WP.blk [(.bipush 9, 2, (0, 0), .int 9), (.goto 15, 3, (89, 0), .null)] (G := True) (c' := (89, [some (.ref 39), some (.int x1), some (.int x2), some (.int x3), some (.int x4), some (.int x5), none, none], [.int 9], M)) (by decide +kernel) rfl trivial ?_
      exact L_R_chance_89 hΦ hrec_46 _ _ _ _ _ _ h
theorem P_R_chance_46 {d : Nat} {Post : Option Value → Mm → Prop} {M : Mm} {Φ : Int32 → Prop} (hΦ : ∀ r, Φ r → Post (some (.int r)) M) : ∀ (n : Nat) (x1 : Int32) (x2 : Int32) (x3 : Int32) (x4 : Int32) (x5 : Int32), lp (D_R_chance_46 M Φ) n (x1, x2, x3, x4, x5) → WP (Ct (d + 2)) 192 Post (46, [some (.ref 39), some (.int x1), some (.int x2), some (.int x3), some (.int x4), some (.int x5), none, none], [], M)
  | 0, x1, x2, x3, x4, x5, h => absurd h (by simp [lp])
  | n + 1, x1, x2, x3, x4, x5, h => L_R_chance_46 hΦ (P_R_chance_46 hΦ n) x1 x2 x3 x4 x5 h
set_option maxRecDepth 100000 in
set_option maxHeartbeats 4000000 in
theorem sp_R_chance {d : Nat} {Post : Option Value → Mm → Prop} {M : Mm} {a1 : Int32} {a2 : Int32} {Φ : Int32 → Prop} (h : S_R_chance M a1 a2 Φ) (hΦ : ∀ r, Φ r → Post (some (.int r)) M) : Ct (d + 3) 192 [.ref 39, .int a1, .int a2] M Post := by
  refine Ct.go (n := 8) (E := [some (.ref 39), some (.int a1), some (.int a2), none, none, none, none, none]) (by decide +kernel) (by simp [Value.category]) rfl ?_
  refine WP.blk [(.aload_n 0, 1, (0, 0), .null), (.getfield 136, 3, (7, 5), .null)] (G := True) (c' := (4, [some (.ref 39), some (.int a1), some (.int a2), none, none, none, none, none], [.int (M 39 5)], M)) (by decide +kernel) rfl trivial ?_
  refine WP.br (.ifCond .ne 6, 3, (10, 0), .null) (by decide +kernel) rfl (fun c1 => ?_) (fun c1 => ?_)
  · replace h := h.2 c1
    refine WP.blk [(.iload_n 1, 1, (0, 0), .null), (.iconst 0, 1, (0, 0), .int 0), (.bipush 10, 2, (0, 0), .int 10)] (G := True) (c' := (14, [some (.ref 39), some (.int a1), some (.int a2), none, none, none, none, none], [.int 10, .int 0, .int a1], M)) (by decide +kernel) rfl trivial ?_
    refine WP.call (.invokestatic 53, 3, (135, 3), .null) (by decide +kernel) rfl (sp_R_in (d := d + 1) h (fun r2 h => ?_))
    show WP (Ct (d + 2)) 192 Post (17, [some (.ref 39), some (.int a1), some (.int a2), none, none, none, none, none], [.int r2], M)
    refine WP.br (.ifCond .eq 12, 3, (29, 0), .null) (by decide +kernel) rfl (fun c3 => ?_) (fun c3 => ?_)
    · replace h := h.1 c3
      refine WP.blk [(.ldc 61, 2, (0, 0), .int (-1000001))] (G := True) (c' := (31, [some (.ref 39), some (.int a1), some (.int a2), none, none, none, none, none], [.int (-1000001)], M)) (by decide +kernel) rfl trivial ?_
      exact WP.ret (.ireturn, 1, (0, 0), .null) (rk := 1) (by decide +kernel) (by decide +kernel) rfl trivial (hΦ _ h)
    · replace h := h.2 c3
      refine WP.blk [(.iload_n 2, 1, (0, 0), .null), (.iconst 0, 1, (0, 0), .int 0), (.iconst 1, 1, (0, 0), .int 1)] (G := True) (c' := (23, [some (.ref 39), some (.int a1), some (.int a2), none, none, none, none, none], [.int 1, .int 0, .int a2], M)) (by decide +kernel) rfl trivial ?_
      refine WP.call (.invokestatic 53, 3, (135, 3), .null) (by decide +kernel) rfl (sp_R_in (d := d + 1) h (fun r4 h => ?_))
      show WP (Ct (d + 2)) 192 Post (26, [some (.ref 39), some (.int a1), some (.int a2), none, none, none, none, none], [.int r4], M)
      refine WP.br (.ifCond .ne 6, 3, (32, 0), .null) (by decide +kernel) rfl (fun c5 => ?_) (fun c5 => ?_)
      · replace h := h.2 c5
        refine WP.blk [(.iconst 1, 1, (0, 0), .int 1), (.istore_n 3, 1, (0, 0), .null), (.iconst 1, 1, (0, 0), .int 1), (.istore 4, 2, (0, 0), .null), (.aload_n 0, 1, (0, 0), .null), (.getfield 22, 3, (7, 6), .null), (.bipush 6, 2, (0, 0), .int 6), (.iaload, 1, (0, 0), .null), (.istore 5, 2, (0, 0), .null)] (G := vp_in 6 35 ∧ True) (c' := (46, [some (.ref 39), some (.int a1), some (.int a2), some (.int 1), some (.int 1), some (.int (M 44 (Int32.toNatClampNeg 6))), none, none], [], M)) (by decide +kernel) rfl ⟨(vp_lit (by decide)), trivial⟩ ?_
        obtain ⟨n, h⟩ := h
        exact P_R_chance_46 hΦ n _ _ _ _ _ h
      · replace h := h.1 (Classical.not_not.mp c5)
        refine WP.blk [(.ldc 61, 2, (0, 0), .int (-1000001))] (G := True) (c' := (31, [some (.ref 39), some (.int a1), some (.int a2), none, none, none, none, none], [.int (-1000001)], M)) (by decide +kernel) rfl trivial ?_
        exact WP.ret (.ireturn, 1, (0, 0), .null) (rk := 1) (by decide +kernel) (by decide +kernel) rfl trivial (hΦ _ h)
  · replace h := h.1 (Classical.not_not.mp c1)
    refine WP.blk [(.ldc 154, 2, (0, 0), .int (-1000002))] (G := True) (c' := (9, [some (.ref 39), some (.int a1), some (.int a2), none, none, none, none, none], [.int (-1000002)], M)) (by decide +kernel) rfl trivial ?_
    exact WP.ret (.ireturn, 1, (0, 0), .null) (rk := 1) (by decide +kernel) (by decide +kernel) rfl trivial (hΦ _ h)
/-- GearRoadModel.drawn(III)I -/
def D_R_drawn_315 (Φ : Int32 → Mm → Prop) (rec_59 : Int32 × Int32 × Int64 × Int32 × Int32 × Int32 × Mm → Prop) : Int32 × Int32 × Int64 × Int32 × Int32 × Int32 × Mm → Prop
  | (x1, x2, x3, x4, x5, x6, M) => rec_59 (x1, x2, x3, x4, x5, (x6 + 1), M)
def D_R_drawn_232 (Φ : Int32 → Mm → Prop) (rec_59 : Int32 × Int32 × Int64 × Int32 × Int32 × Int32 × Mm → Prop) : Int32 × Int32 × Int64 × Int32 × Int32 × Int32 × Mm → Prop
  | (x1, x2, x3, x4, x5, x6, M) => (((M 45 (Int32.toNatClampNeg 6)) = (M 45 (Int32.toNatClampNeg 3)) → S_R_turnAbout 45 M (fun M14 => D_R_drawn_315 Φ rec_59 (x1, x2, x3, x4, x5, x6, M14))) ∧ (¬ ((M 45 (Int32.toNatClampNeg 6)) = (M 45 (Int32.toNatClampNeg 3))) → S_R_gearOf 45 M (fun r8 => S_R_bears 45 M r8 (M 45 (Int32.toNatClampNeg 6)) (fun r9 => ((r9 = 0 → D_R_drawn_315 Φ rec_59 (x1, x2, x3, x4, x5, x6, M)) ∧ (¬ (r9 = 0) → S_R_gearOf 45 M (fun r11 => S_R_turnsOf 45 M r11 (fun r12 => (∀ M13, M13 = mu M 45 (Int32.toNatClampNeg 6) ((M 45 (Int32.toNatClampNeg 6)) + 1) → D_R_drawn_315 Φ rec_59 (x1, x2, x3, (x4 + r12), (x5 + 1), x6, M13))))))))))
def D_R_drawn_221 (Φ : Int32 → Mm → Prop) (rec_59 : Int32 × Int32 × Int64 × Int32 × Int32 × Int32 × Mm → Prop) : Int32 × Int32 × Int64 × Int32 × Int32 × Int32 × Int32 × Int32 × Mm → Prop
  | (x1, x2, x3, x4, x5, x6, x7, x8, M) => (∀ M9, M9 = mu M 45 (Int32.toNatClampNeg 4) x6 → D_R_drawn_232 Φ rec_59 (x1, x2, x3, (x8 + x7), x4, x5, M9))
def D_R_drawn_173 (Φ : Int32 → Mm → Prop) (rec_59 : Int32 × Int32 × Int64 × Int32 × Int32 × Int32 × Mm → Prop) : Int32 × Int32 × Int64 × Int32 × Int32 × Int32 × Int32 × Mm → Prop
  | (x1, x2, x3, x4, x5, x6, x7, M) => ((x7 = 2 → (((lg_cmp (lrm x3 3) 0) = 0 → ¬ (Int32.toInt64 (M 45 (Int32.toNatClampNeg 1))) = 0 ∧ (((Int64.toInt32 (lrm x3 (Int32.toInt64 (M 45 (Int32.toNatClampNeg 1))))) = (M 45 (Int32.toNatClampNeg 4)) → D_R_drawn_221 Φ rec_59 (x1, x2, x3, x5, x6, (Int64.toInt32 (lrm x3 (Int32.toInt64 (M 45 (Int32.toNatClampNeg 1))))), 0, x4, M)) ∧ (¬ ((Int64.toInt32 (lrm x3 (Int32.toInt64 (M 45 (Int32.toNatClampNeg 1))))) = (M 45 (Int32.toNatClampNeg 4))) → D_R_drawn_221 Φ rec_59 (x1, x2, x3, x5, x6, (Int64.toInt32 (lrm x3 (Int32.toInt64 (M 45 (Int32.toNatClampNeg 1))))), 5, x4, M)))) ∧ (¬ ((lg_cmp (lrm x3 3) 0) = 0) → D_R_drawn_232 Φ rec_59 (x1, x2, x3, x4, x5, x6, M)))) ∧ (¬ (x7 = 2) → D_R_drawn_232 Φ rec_59 (x1, x2, x3, x4, x5, x6, M)))
def D_R_drawn_102 (Φ : Int32 → Mm → Prop) (rec_59 : Int32 × Int32 × Int64 × Int32 × Int32 × Int32 × Mm → Prop) : Int32 × Int32 × Int64 × Int32 × Int32 × Int32 × Int32 × Int32 × Int32 × Mm → Prop
  | (x1, x2, x3, x4, x5, x6, x7, x8, x9, M) => ((2 ≤ x7 → D_R_drawn_173 Φ rec_59 (x1, x2, x3, x4, x5, x6, x7, M)) ∧ (¬ (2 ≤ x7) → S_R_in M (x9 + x8) 0 ((M 45 (Int32.toNatClampNeg 2)) - 1) (fun r11 => ((r11 = 0 → D_R_drawn_173 Φ rec_59 (x1, x2, x3, x4, x5, x6, x7, M)) ∧ (¬ (r11 = 0) → S_R_canLeave 45 M (M 45 (Int32.toNatClampNeg 5)) (M 45 (Int32.toNatClampNeg 6)) (fun r13 => ((r13 = 0 → D_R_drawn_173 Φ rec_59 (x1, x2, x3, x4, x5, x6, x7, M)) ∧ (¬ (r13 = 0) → (∀ M15, M15 = mu M 45 (Int32.toNatClampNeg 5) (x9 + x8) → S_R_shiftOnto 45 M15 (x9 + x8) (fun r16 => D_R_drawn_173 Φ rec_59 (x1, x2, x3, (x4 + r16), x5, x6, x7, M15)))))))))))
def D_R_drawn_59 (Φ : Int32 → Mm → Prop) (rec_59 : Int32 × Int32 × Int64 × Int32 × Int32 × Int32 × Mm → Prop) : Int32 × Int32 × Int64 × Int32 × Int32 × Int32 × Mm → Prop
  | (x1, x2, x3, x4, x5, x6, M) => ((x1 ≤ x6 → ((x2 = 0 → Φ x4 M) ∧ (¬ (x2 = 0) → Φ x5 M))) ∧ (¬ (x1 ≤ x6) → (((Int64.toInt32 (lrm (lrm (x3 * 16807) 2147483647) 4)) = 0 → D_R_drawn_102 Φ rec_59 (x1, x2, (lrm (x3 * 16807) 2147483647), x4, x5, x6, (Int64.toInt32 (lrm (lrm (x3 * 16807) 2147483647) 4)), 1, (M 45 (Int32.toNatClampNeg 5)), M)) ∧ (¬ ((Int64.toInt32 (lrm (lrm (x3 * 16807) 2147483647) 4)) = 0) → D_R_drawn_102 Φ rec_59 (x1, x2, (lrm (x3 * 16807) 2147483647), x4, x5, x6, (Int64.toInt32 (lrm (lrm (x3 * 16807) 2147483647) 4)), (-1), (M 45 (Int32.toNatClampNeg 5)), M)))))
def S_R_drawn (M : Mm) (a1 : Int32) (a2 : Int32) (a3 : Int32) (Φ : Int32 → Mm → Prop) : Prop := (((M 39 5) = 0 → Φ (-1000002) M) ∧ (¬ ((M 39 5) = 0) → S_R_in M a1 0 60 (fun r2 => ((r2 = 0 → Φ (-1000001) M) ∧ (¬ (r2 = 0) → S_R_in M a2 1 999999 (fun r4 => ((r4 = 0 → Φ (-1000001) M) ∧ (¬ (r4 = 0) → S_R_in M a3 0 1 (fun r6 => ((r6 = 0 → Φ (-1000001) M) ∧ (¬ (r6 = 0) → S_R_take M (fun M8 => ∃ n, lp (D_R_drawn_59 Φ) n (a1, a3, (Int32.toInt64 a2), 0, 0, 0, M8)))))))))))))
set_option maxRecDepth 100000 in
set_option maxHeartbeats 4000000 in
theorem L_R_drawn_315 {d : Nat} {Post : Option Value → Mm → Prop} {rec_59 : Int32 × Int32 × Int64 × Int32 × Int32 × Int32 × Mm → Prop} {Φ : Int32 → Mm → Prop} (hΦ : ∀ r M1, Φ r M1 → Post (some (.int r)) M1) (hrec_59 : ∀ (x1 : Int32) (x2 : Int32) (x3 : Int64) (x4 : Int32) (x5 : Int32) (x6 : Int32) (M : Mm), rec_59 (x1, x2, x3, x4, x5, x6, M) → WP (Ct (d + 2)) 193 Post (59, [some (.ref 39), some (.int x1), none, some (.int x2), some (.long x3), none, some (.int x4), some (.int x5), some (.int x6), none, none, none], [], M)) : ∀ (x1 : Int32) (x2 : Int32) (x3 : Int64) (x4 : Int32) (x5 : Int32) (x6 : Int32) (M : Mm), D_R_drawn_315 Φ rec_59 (x1, x2, x3, x4, x5, x6, M) → WP (Ct (d + 2)) 193 Post (315, [some (.ref 39), some (.int x1), none, some (.int x2), some (.long x3), none, some (.int x4), some (.int x5), some (.int x6), none, none, none], [], M) := by
  intro x1 x2 x3 x4 x5 x6 M h
  replace h : rec_59 (x1, x2, x3, x4, x5, (x6 + 1), M) := h
  refine WP.blk [(.iinc 8 1, 3, (0, 0), .int 1), (.goto (-259), 3, (59, 0), .null)] (G := True) (c' := (59, [some (.ref 39), some (.int x1), none, some (.int x2), some (.long x3), none, some (.int x4), some (.int x5), some (.int (x6 + 1)), none, none, none], [], M)) (by decide +kernel) rfl trivial ?_
  exact hrec_59 _ _ _ _ _ _ _ h
set_option maxRecDepth 100000 in
set_option maxHeartbeats 4000000 in
theorem L_R_drawn_232 {d : Nat} {Post : Option Value → Mm → Prop} {rec_59 : Int32 × Int32 × Int64 × Int32 × Int32 × Int32 × Mm → Prop} {Φ : Int32 → Mm → Prop} (hΦ : ∀ r M1, Φ r M1 → Post (some (.int r)) M1) (hrec_59 : ∀ (x1 : Int32) (x2 : Int32) (x3 : Int64) (x4 : Int32) (x5 : Int32) (x6 : Int32) (M : Mm), rec_59 (x1, x2, x3, x4, x5, x6, M) → WP (Ct (d + 2)) 193 Post (59, [some (.ref 39), some (.int x1), none, some (.int x2), some (.long x3), none, some (.int x4), some (.int x5), some (.int x6), none, none, none], [], M)) : ∀ (x1 : Int32) (x2 : Int32) (x3 : Int64) (x4 : Int32) (x5 : Int32) (x6 : Int32) (M : Mm), D_R_drawn_232 Φ rec_59 (x1, x2, x3, x4, x5, x6, M) → WP (Ct (d + 2)) 193 Post (232, [some (.ref 39), some (.int x1), none, some (.int x2), some (.long x3), none, some (.int x4), some (.int x5), some (.int x6), none, none, none], [], M) := by
  intro x1 x2 x3 x4 x5 x6 M h
  replace h : (((M 45 (Int32.toNatClampNeg 6)) = (M 45 (Int32.toNatClampNeg 3)) → S_R_turnAbout 45 M (fun M14 => D_R_drawn_315 Φ rec_59 (x1, x2, x3, x4, x5, x6, M14))) ∧ (¬ ((M 45 (Int32.toNatClampNeg 6)) = (M 45 (Int32.toNatClampNeg 3))) → S_R_gearOf 45 M (fun r8 => S_R_bears 45 M r8 (M 45 (Int32.toNatClampNeg 6)) (fun r9 => ((r9 = 0 → D_R_drawn_315 Φ rec_59 (x1, x2, x3, x4, x5, x6, M)) ∧ (¬ (r9 = 0) → S_R_gearOf 45 M (fun r11 => S_R_turnsOf 45 M r11 (fun r12 => (∀ M13, M13 = mu M 45 (Int32.toNatClampNeg 6) ((M 45 (Int32.toNatClampNeg 6)) + 1) → D_R_drawn_315 Φ rec_59 (x1, x2, x3, (x4 + r12), (x5 + 1), x6, M13)))))))))) := h
  refine WP.blk [(.aload_n 0, 1, (0, 0), .null), (.getfield 25, 3, (7, 7), .null), (.bipush 6, 2, (0, 0), .int 6), (.iaload, 1, (0, 0), .null), (.aload_n 0, 1, (0, 0), .null), (.getfield 25, 3, (7, 7), .null), (.iconst 3, 1, (0, 0), .int 3), (.iaload, 1, (0, 0), .null)] (G := vp_in 6 35 ∧ vp_in 3 35 ∧ True) (c' := (245, [some (.ref 39), some (.int x1), none, some (.int x2), some (.long x3), none, some (.int x4), some (.int x5), some (.int x6), none, none, none], [.int (M 45 (Int32.toNatClampNeg 3)), .int (M 45 (Int32.toNatClampNeg 6))], M)) (by decide +kernel) rfl ⟨(vp_lit (by decide)), (vp_lit (by decide)), trivial⟩ ?_
  refine WP.br (.if_icmp .ne 13, 3, (258, 0), .null) (by decide +kernel) rfl (fun c7 => ?_) (fun c7 => ?_)
  · replace h := h.2 c7
    refine WP.blk [(.aload_n 0, 1, (0, 0), .null), (.getfield 25, 3, (7, 7), .null), (.aload_n 0, 1, (0, 0), .null), (.getfield 25, 3, (7, 7), .null)] (G := True) (c' := (266, [some (.ref 39), some (.int x1), none, some (.int x2), some (.long x3), none, some (.int x4), some (.int x5), some (.int x6), none, none, none], [.ref 45, .ref 45], M)) (by decide +kernel) rfl trivial ?_
    refine WP.call (.invokestatic 146, 3, (157, 1), .null) (by decide +kernel) rfl (sp_R_gearOf (d := d + 1) (by decide) h (fun r8 h => ?_))
    show WP (Ct (d + 2)) 193 Post (269, [some (.ref 39), some (.int x1), none, some (.int x2), some (.long x3), none, some (.int x4), some (.int x5), some (.int x6), none, none, none], [.int r8, .ref 45], M)
    refine WP.blk [(.aload_n 0, 1, (0, 0), .null), (.getfield 25, 3, (7, 7), .null), (.bipush 6, 2, (0, 0), .int 6), (.iaload, 1, (0, 0), .null)] (G := vp_in 6 35 ∧ True) (c' := (276, [some (.ref 39), some (.int x1), none, some (.int x2), some (.long x3), none, some (.int x4), some (.int x5), some (.int x6), none, none, none], [.int (M 45 (Int32.toNatClampNeg 6)), .int r8, .ref 45], M)) (by decide +kernel) rfl ⟨(vp_lit (by decide)), trivial⟩ ?_
    refine WP.call (.invokestatic 150, 3, (158, 3), .null) (by decide +kernel) rfl (sp_R_bears (d := d + 0) (by decide) h (fun r9 h => ?_))
    show WP (Ct (d + 2)) 193 Post (279, [some (.ref 39), some (.int x1), none, some (.int x2), some (.long x3), none, some (.int x4), some (.int x5), some (.int x6), none, none, none], [.int r9], M)
    refine WP.br (.ifCond .eq 36, 3, (315, 0), .null) (by decide +kernel) rfl (fun c10 => ?_) (fun c10 => ?_)
    · replace h := h.1 c10
      exact L_R_drawn_315 hΦ hrec_59 _ _ _ _ _ _ _ h
    · replace h := h.2 c10
      refine WP.blk [(.iload 6, 2, (0, 0), .null), (.aload_n 0, 1, (0, 0), .null), (.getfield 25, 3, (7, 7), .null), (.aload_n 0, 1, (0, 0), .null), (.getfield 25, 3, (7, 7), .null)] (G := True) (c' := (292, [some (.ref 39), some (.int x1), none, some (.int x2), some (.long x3), none, some (.int x4), some (.int x5), some (.int x6), none, none, none], [.ref 45, .ref 45, .int x4], M)) (by decide +kernel) rfl trivial ?_
      refine WP.call (.invokestatic 146, 3, (157, 1), .null) (by decide +kernel) rfl (sp_R_gearOf (d := d + 1) (by decide) h (fun r11 h => ?_))
      show WP (Ct (d + 2)) 193 Post (295, [some (.ref 39), some (.int x1), none, some (.int x2), some (.long x3), none, some (.int x4), some (.int x5), some (.int x6), none, none, none], [.int r11, .ref 45, .int x4], M)
      refine WP.call (.invokestatic 158, 3, (161, 2), .null) (by decide +kernel) rfl (sp_R_turnsOf (d := d + 1) (by decide) h (fun r12 h => ?_))
      show WP (Ct (d + 2)) 193 Post (298, [some (.ref 39), some (.int x1), none, some (.int x2), some (.long x3), none, some (.int x4), some (.int x5), some (.int x6), none, none, none], [.int r12, .int x4], M)
      refine WP.blk [(.iadd, 1, (0, 0), .null), (.istore 6, 2, (0, 0), .null), (.aload_n 0, 1, (0, 0), .null), (.getfield 25, 3, (7, 7), .null), (.bipush 6, 2, (0, 0), .int 6), (.dup2, 1, (0, 0), .null), (.iaload, 1, (0, 0), .null), (.iconst 1, 1, (0, 0), .int 1), (.iadd, 1, (0, 0), .null), (.iastore, 1, (0, 0), .null)] (G := vp_in 6 35 ∧ vp_in 6 35 ∧ True) (c' := (312, [some (.ref 39), some (.int x1), none, some (.int x2), some (.long x3), none, some (.int (x4 + r12)), some (.int x5), some (.int x6), none, none, none], [], (mu M 45 (Int32.toNatClampNeg 6) ((M 45 (Int32.toNatClampNeg 6)) + 1)))) (by decide +kernel) rfl ⟨(vp_lit (by decide)), (vp_lit (by decide)), trivial⟩ ?_
      replace h := h (mu M 45 (Int32.toNatClampNeg 6) ((M 45 (Int32.toNatClampNeg 6)) + 1)) rfl
      generalize (mu M 45 (Int32.toNatClampNeg 6) ((M 45 (Int32.toNatClampNeg 6)) + 1)) = M13 at h ⊢
      refine WP.blk [(.iinc 7 1, 3, (0, 0), .int 1)] (G := True) (c' := (315, [some (.ref 39), some (.int x1), none, some (.int x2), some (.long x3), none, some (.int (x4 + r12)), some (.int (x5 + 1)), some (.int x6), none, none, none], [], M13)) (by decide +kernel) rfl trivial ?_
      exact L_R_drawn_315 hΦ hrec_59 _ _ _ _ _ _ _ h
  · replace h := h.1 (Classical.not_not.mp c7)
    refine WP.blk [(.aload_n 0, 1, (0, 0), .null), (.getfield 25, 3, (7, 7), .null)] (G := True) (c' := (252, [some (.ref 39), some (.int x1), none, some (.int x2), some (.long x3), none, some (.int x4), some (.int x5), some (.int x6), none, none, none], [.ref 45], M)) (by decide +kernel) rfl trivial ?_
    refine WP.call (.invokestatic 175, 3, (170, 1), .null) (by decide +kernel) rfl (sp_R_turnAbout (d := d + 1) (by decide) h (fun M14 h => ?_))
    show WP (Ct (d + 2)) 193 Post (255, [some (.ref 39), some (.int x1), none, some (.int x2), some (.long x3), none, some (.int x4), some (.int x5), some (.int x6), none, none, none], [], M14)
    refine WP.blk [(.goto 60, 3, (315, 0), .null)] (G := True) (c' := (315, [some (.ref 39), some (.int x1), none, some (.int x2), some (.long x3), none, some (.int x4), some (.int x5), some (.int x6), none, none, none], [], M14)) (by decide +kernel) rfl trivial ?_
    exact L_R_drawn_315 hΦ hrec_59 _ _ _ _ _ _ _ h
set_option maxRecDepth 100000 in
set_option maxHeartbeats 4000000 in
theorem L_R_drawn_221 {d : Nat} {Post : Option Value → Mm → Prop} {rec_59 : Int32 × Int32 × Int64 × Int32 × Int32 × Int32 × Mm → Prop} {Φ : Int32 → Mm → Prop} (hΦ : ∀ r M1, Φ r M1 → Post (some (.int r)) M1) (hrec_59 : ∀ (x1 : Int32) (x2 : Int32) (x3 : Int64) (x4 : Int32) (x5 : Int32) (x6 : Int32) (M : Mm), rec_59 (x1, x2, x3, x4, x5, x6, M) → WP (Ct (d + 2)) 193 Post (59, [some (.ref 39), some (.int x1), none, some (.int x2), some (.long x3), none, some (.int x4), some (.int x5), some (.int x6), none, none, none], [], M)) : ∀ (x1 : Int32) (x2 : Int32) (x3 : Int64) (x4 : Int32) (x5 : Int32) (x6 : Int32) (x7 : Int32) (x8 : Int32) (M : Mm), D_R_drawn_221 Φ rec_59 (x1, x2, x3, x4, x5, x6, x7, x8, M) → WP (Ct (d + 2)) 193 Post (221, [some (.ref 39), some (.int x1), none, some (.int x2), some (.long x3), none, none, some (.int x4), some (.int x5), none, none, some (.int x6)], [.int x7, .int x8], M) := by
  intro x1 x2 x3 x4 x5 x6 x7 x8 M h
  replace h : (∀ M9, M9 = mu M 45 (Int32.toNatClampNeg 4) x6 → D_R_drawn_232 Φ rec_59 (x1, x2, x3, (x8 + x7), x4, x5, M9)) := h
  refine WP.blk [(.iadd, 1, (0, 0), .null), (.istore 6, 2, (0, 0), .null), (.aload_n 0, 1, (0, 0), .null), (.getfield 25, 3, (7, 7), .null), (.iconst 4, 1, (0, 0), .int 4), (.iload 11, 2, (0, 0), .null), (.iastore, 1, (0, 0), .null)] (G := vp_in 4 35 ∧ True) (c' := (232, [some (.ref 39), some (.int x1), none, some (.int x2), some (.long x3), none, some (.int (x8 + x7)), some (.int x4), some (.int x5), none, none, some (.int x6)], [], (mu M 45 (Int32.toNatClampNeg 4) x6))) (by decide +kernel) rfl ⟨(vp_lit (by decide)), trivial⟩ ?_
  replace h := h (mu M 45 (Int32.toNatClampNeg 4) x6) rfl
  generalize (mu M 45 (Int32.toNatClampNeg 4) x6) = M9 at h ⊢
  refine WP.fgt [some (.ref 39), some (.int x1), none, some (.int x2), some (.long x3), none, some (.int (x8 + x7)), some (.int x4), some (.int x5), none, none, none] (by simp [fgt]) ?_
  exact L_R_drawn_232 hΦ hrec_59 _ _ _ _ _ _ _ h
set_option maxRecDepth 100000 in
set_option maxHeartbeats 4000000 in
theorem L_R_drawn_173 {d : Nat} {Post : Option Value → Mm → Prop} {rec_59 : Int32 × Int32 × Int64 × Int32 × Int32 × Int32 × Mm → Prop} {Φ : Int32 → Mm → Prop} (hΦ : ∀ r M1, Φ r M1 → Post (some (.int r)) M1) (hrec_59 : ∀ (x1 : Int32) (x2 : Int32) (x3 : Int64) (x4 : Int32) (x5 : Int32) (x6 : Int32) (M : Mm), rec_59 (x1, x2, x3, x4, x5, x6, M) → WP (Ct (d + 2)) 193 Post (59, [some (.ref 39), some (.int x1), none, some (.int x2), some (.long x3), none, some (.int x4), some (.int x5), some (.int x6), none, none, none], [], M)) : ∀ (x1 : Int32) (x2 : Int32) (x3 : Int64) (x4 : Int32) (x5 : Int32) (x6 : Int32) (x7 : Int32) (M : Mm), D_R_drawn_173 Φ rec_59 (x1, x2, x3, x4, x5, x6, x7, M) → WP (Ct (d + 2)) 193 Post (173, [some (.ref 39), some (.int x1), none, some (.int x2), some (.long x3), none, some (.int x4), some (.int x5), some (.int x6), some (.int x7), none, none], [], M) := by
  intro x1 x2 x3 x4 x5 x6 x7 M h
  replace h : ((x7 = 2 → (((lg_cmp (lrm x3 3) 0) = 0 → ¬ (Int32.toInt64 (M 45 (Int32.toNatClampNeg 1))) = 0 ∧ (((Int64.toInt32 (lrm x3 (Int32.toInt64 (M 45 (Int32.toNatClampNeg 1))))) = (M 45 (Int32.toNatClampNeg 4)) → D_R_drawn_221 Φ rec_59 (x1, x2, x3, x5, x6, (Int64.toInt32 (lrm x3 (Int32.toInt64 (M 45 (Int32.toNatClampNeg 1))))), 0, x4, M)) ∧ (¬ ((Int64.toInt32 (lrm x3 (Int32.toInt64 (M 45 (Int32.toNatClampNeg 1))))) = (M 45 (Int32.toNatClampNeg 4))) → D_R_drawn_221 Φ rec_59 (x1, x2, x3, x5, x6, (Int64.toInt32 (lrm x3 (Int32.toInt64 (M 45 (Int32.toNatClampNeg 1))))), 5, x4, M)))) ∧ (¬ ((lg_cmp (lrm x3 3) 0) = 0) → D_R_drawn_232 Φ rec_59 (x1, x2, x3, x4, x5, x6, M)))) ∧ (¬ (x7 = 2) → D_R_drawn_232 Φ rec_59 (x1, x2, x3, x4, x5, x6, M))) := h
  refine WP.blk [(.iload 9, 2, (0, 0), .null), (.iconst 2, 1, (0, 0), .int 2)] (G := True) (c' := (176, [some (.ref 39), some (.int x1), none, some (.int x2), some (.long x3), none, some (.int x4), some (.int x5), some (.int x6), some (.int x7), none, none], [.int 2, .int x7], M)) (by decide +kernel) rfl trivial ?_
  refine WP.br (.if_icmp .ne 56, 3, (232, 0), .null) (by decide +kernel) rfl (fun c8 => ?_) (fun c8 => ?_)
  · replace h := h.2 c8
    refine WP.fgt [some (.ref 39), some (.int x1), none, some (.int x2), some (.long x3), none, some (.int x4), some (.int x5), some (.int x6), none, none, none] (by simp [fgt]) ?_
    exact L_R_drawn_232 hΦ hrec_59 _ _ _ _ _ _ _ h
  · replace h := h.1 (Classical.not_not.mp c8)
    refine WP.blk [(.lload 4, 2, (0, 0), .null), (.ldc2_w 212, 3, (0, 0), .long (3)), (.lrem, 1, (0, 0), .null), (.lconst 0, 1, (0, 0), .long 0), (.lcmp, 1, (0, 0), .null)] (G := ¬ (3 : Int64) = 0 ∧ True) (c' := (187, [some (.ref 39), some (.int x1), none, some (.int x2), some (.long x3), none, some (.int x4), some (.int x5), some (.int x6), some (.int x7), none, none], [.int (lg_cmp (lrm x3 3) 0)], M)) (by decide +kernel) rfl ⟨(by decide), trivial⟩ ?_
    refine WP.br (.ifCond .ne 45, 3, (232, 0), .null) (by decide +kernel) rfl (fun c9 => ?_) (fun c9 => ?_)
    · replace h := h.2 c9
      refine WP.fgt [some (.ref 39), some (.int x1), none, some (.int x2), some (.long x3), none, some (.int x4), some (.int x5), some (.int x6), none, none, none] (by simp [fgt]) ?_
      exact L_R_drawn_232 hΦ hrec_59 _ _ _ _ _ _ _ h
    · replace h := h.1 (Classical.not_not.mp c9)
      refine WP.blk [(.lload 4, 2, (0, 0), .null), (.aload_n 0, 1, (0, 0), .null), (.getfield 25, 3, (7, 7), .null), (.iconst 1, 1, (0, 0), .int 1), (.iaload, 1, (0, 0), .null), (.i2l, 1, (0, 0), .null), (.lrem, 1, (0, 0), .null), (.l2i, 1, (0, 0), .null), (.istore 11, 2, (0, 0), .null), (.iload 6, 2, (0, 0), .null), (.iload 11, 2, (0, 0), .null), (.aload_n 0, 1, (0, 0), .null), (.getfield 25, 3, (7, 7), .null), (.iconst 4, 1, (0, 0), .int 4), (.iaload, 1, (0, 0), .null)] (G := vp_in 1 35 ∧ ¬ (Int32.toInt64 (M 45 (Int32.toNatClampNeg 1))) = 0 ∧ vp_in 4 35 ∧ True) (c' := (213, [some (.ref 39), some (.int x1), none, some (.int x2), some (.long x3), none, some (.int x4), some (.int x5), some (.int x6), some (.int x7), none, some (.int (Int64.toInt32 (lrm x3 (Int32.toInt64 (M 45 (Int32.toNatClampNeg 1))))))], [.int (M 45 (Int32.toNatClampNeg 4)), .int (Int64.toInt32 (lrm x3 (Int32.toInt64 (M 45 (Int32.toNatClampNeg 1))))), .int x4], M)) (by decide +kernel) rfl ⟨(vp_lit (by decide)), h.1, (vp_lit (by decide)), trivial⟩ ?_
      replace h := h.2
      refine WP.br (.if_icmp .ne 7, 3, (220, 0), .null) (by decide +kernel) rfl (fun c10 => ?_) (fun c10 => ?_)
      · replace h := h.2 c10
        refine WP.blk [(.iconst 5, 1, (0, 0), .int 5)] (G := True) (c' := (221, [some (.ref 39), some (.int x1), none, some (.int x2), some (.long x3), none, some (.int x4), some (.int x5), some (.int x6), some (.int x7), none, some (.int (Int64.toInt32 (lrm x3 (Int32.toInt64 (M 45 (Int32.toNatClampNeg 1))))))], [.int 5, .int x4], M)) (by decide +kernel) rfl trivial ?_
        refine WP.fgt [some (.ref 39), some (.int x1), none, some (.int x2), some (.long x3), none, none, some (.int x5), some (.int x6), none, none, some (.int (Int64.toInt32 (lrm x3 (Int32.toInt64 (M 45 (Int32.toNatClampNeg 1))))))] (by simp [fgt]) ?_
        exact L_R_drawn_221 hΦ hrec_59 _ _ _ _ _ _ _ _ _ h
      · replace h := h.1 (Classical.not_not.mp c10)
        refine WP.blk [(.iconst 0, 1, (0, 0), .int 0), (.goto 4, 3, (221, 0), .null)] (G := True) (c' := (221, [some (.ref 39), some (.int x1), none, some (.int x2), some (.long x3), none, some (.int x4), some (.int x5), some (.int x6), some (.int x7), none, some (.int (Int64.toInt32 (lrm x3 (Int32.toInt64 (M 45 (Int32.toNatClampNeg 1))))))], [.int 0, .int x4], M)) (by decide +kernel) rfl trivial ?_
        refine WP.fgt [some (.ref 39), some (.int x1), none, some (.int x2), some (.long x3), none, none, some (.int x5), some (.int x6), none, none, some (.int (Int64.toInt32 (lrm x3 (Int32.toInt64 (M 45 (Int32.toNatClampNeg 1))))))] (by simp [fgt]) ?_
        exact L_R_drawn_221 hΦ hrec_59 _ _ _ _ _ _ _ _ _ h
set_option maxRecDepth 100000 in
set_option maxHeartbeats 4000000 in
theorem L_R_drawn_102 {d : Nat} {Post : Option Value → Mm → Prop} {rec_59 : Int32 × Int32 × Int64 × Int32 × Int32 × Int32 × Mm → Prop} {Φ : Int32 → Mm → Prop} (hΦ : ∀ r M1, Φ r M1 → Post (some (.int r)) M1) (hrec_59 : ∀ (x1 : Int32) (x2 : Int32) (x3 : Int64) (x4 : Int32) (x5 : Int32) (x6 : Int32) (M : Mm), rec_59 (x1, x2, x3, x4, x5, x6, M) → WP (Ct (d + 2)) 193 Post (59, [some (.ref 39), some (.int x1), none, some (.int x2), some (.long x3), none, some (.int x4), some (.int x5), some (.int x6), none, none, none], [], M)) : ∀ (x1 : Int32) (x2 : Int32) (x3 : Int64) (x4 : Int32) (x5 : Int32) (x6 : Int32) (x7 : Int32) (x8 : Int32) (x9 : Int32) (M : Mm), D_R_drawn_102 Φ rec_59 (x1, x2, x3, x4, x5, x6, x7, x8, x9, M) → WP (Ct (d + 2)) 193 Post (102, [some (.ref 39), some (.int x1), none, some (.int x2), some (.long x3), none, some (.int x4), some (.int x5), some (.int x6), some (.int x7), none, none], [.int x8, .int x9], M) := by
  intro x1 x2 x3 x4 x5 x6 x7 x8 x9 M h
  replace h : ((2 ≤ x7 → D_R_drawn_173 Φ rec_59 (x1, x2, x3, x4, x5, x6, x7, M)) ∧ (¬ (2 ≤ x7) → S_R_in M (x9 + x8) 0 ((M 45 (Int32.toNatClampNeg 2)) - 1) (fun r11 => ((r11 = 0 → D_R_drawn_173 Φ rec_59 (x1, x2, x3, x4, x5, x6, x7, M)) ∧ (¬ (r11 = 0) → S_R_canLeave 45 M (M 45 (Int32.toNatClampNeg 5)) (M 45 (Int32.toNatClampNeg 6)) (fun r13 => ((r13 = 0 → D_R_drawn_173 Φ rec_59 (x1, x2, x3, x4, x5, x6, x7, M)) ∧ (¬ (r13 = 0) → (∀ M15, M15 = mu M 45 (Int32.toNatClampNeg 5) (x9 + x8) → S_R_shiftOnto 45 M15 (x9 + x8) (fun r16 => D_R_drawn_173 Φ rec_59 (x1, x2, x3, (x4 + r16), x5, x6, x7, M15))))))))))) := h
  refine WP.blk [(.iadd, 1, (0, 0), .null), (.istore 10, 2, (0, 0), .null), (.iload 9, 2, (0, 0), .null), (.iconst 2, 1, (0, 0), .int 2)] (G := True) (c' := (108, [some (.ref 39), some (.int x1), none, some (.int x2), some (.long x3), none, some (.int x4), some (.int x5), some (.int x6), some (.int x7), some (.int (x9 + x8)), none], [.int 2, .int x7], M)) (by decide +kernel) rfl trivial ?_
  refine WP.br (.if_icmp .ge 65, 3, (173, 0), .null) (by decide +kernel) rfl (fun c10 => ?_) (fun c10 => ?_)
  · replace h := h.1 c10
    refine WP.fgt [some (.ref 39), some (.int x1), none, some (.int x2), some (.long x3), none, some (.int x4), some (.int x5), some (.int x6), some (.int x7), none, none] (by simp [fgt]) ?_
    exact L_R_drawn_173 hΦ hrec_59 _ _ _ _ _ _ _ _ h
  · replace h := h.2 c10
    refine WP.blk [(.iload 10, 2, (0, 0), .null), (.iconst 0, 1, (0, 0), .int 0), (.aload_n 0, 1, (0, 0), .null), (.getfield 25, 3, (7, 7), .null), (.iconst 2, 1, (0, 0), .int 2), (.iaload, 1, (0, 0), .null), (.iconst 1, 1, (0, 0), .int 1), (.isub, 1, (0, 0), .null)] (G := vp_in 2 35 ∧ True) (c' := (122, [some (.ref 39), some (.int x1), none, some (.int x2), some (.long x3), none, some (.int x4), some (.int x5), some (.int x6), some (.int x7), some (.int (x9 + x8)), none], [.int ((M 45 (Int32.toNatClampNeg 2)) - 1), .int 0, .int (x9 + x8)], M)) (by decide +kernel) rfl ⟨(vp_lit (by decide)), trivial⟩ ?_
    refine WP.call (.invokestatic 53, 3, (135, 3), .null) (by decide +kernel) rfl (sp_R_in (d := d + 1) h (fun r11 h => ?_))
    show WP (Ct (d + 2)) 193 Post (125, [some (.ref 39), some (.int x1), none, some (.int x2), some (.long x3), none, some (.int x4), some (.int x5), some (.int x6), some (.int x7), some (.int (x9 + x8)), none], [.int r11], M)
    refine WP.br (.ifCond .eq 48, 3, (173, 0), .null) (by decide +kernel) rfl (fun c12 => ?_) (fun c12 => ?_)
    · replace h := h.1 c12
      refine WP.fgt [some (.ref 39), some (.int x1), none, some (.int x2), some (.long x3), none, some (.int x4), some (.int x5), some (.int x6), some (.int x7), none, none] (by simp [fgt]) ?_
      exact L_R_drawn_173 hΦ hrec_59 _ _ _ _ _ _ _ _ h
    · replace h := h.2 c12
      refine WP.blk [(.aload_n 0, 1, (0, 0), .null), (.getfield 25, 3, (7, 7), .null), (.aload_n 0, 1, (0, 0), .null), (.getfield 25, 3, (7, 7), .null), (.iconst 5, 1, (0, 0), .int 5), (.iaload, 1, (0, 0), .null), (.aload_n 0, 1, (0, 0), .null), (.getfield 25, 3, (7, 7), .null), (.bipush 6, 2, (0, 0), .int 6), (.iaload, 1, (0, 0), .null)] (G := vp_in 5 35 ∧ vp_in 6 35 ∧ True) (c' := (145, [some (.ref 39), some (.int x1), none, some (.int x2), some (.long x3), none, some (.int x4), some (.int x5), some (.int x6), some (.int x7), some (.int (x9 + x8)), none], [.int (M 45 (Int32.toNatClampNeg 6)), .int (M 45 (Int32.toNatClampNeg 5)), .ref 45], M)) (by decide +kernel) rfl ⟨(vp_lit (by decide)), (vp_lit (by decide)), trivial⟩ ?_
      refine WP.call (.invokestatic 169, 3, (166, 3), .null) (by decide +kernel) rfl (sp_R_canLeave (d := d + 1) (by decide) h (fun r13 h => ?_))
      show WP (Ct (d + 2)) 193 Post (148, [some (.ref 39), some (.int x1), none, some (.int x2), some (.long x3), none, some (.int x4), some (.int x5), some (.int x6), some (.int x7), some (.int (x9 + x8)), none], [.int r13], M)
      refine WP.br (.ifCond .eq 25, 3, (173, 0), .null) (by decide +kernel) rfl (fun c14 => ?_) (fun c14 => ?_)
      · replace h := h.1 c14
        refine WP.fgt [some (.ref 39), some (.int x1), none, some (.int x2), some (.long x3), none, some (.int x4), some (.int x5), some (.int x6), some (.int x7), none, none] (by simp [fgt]) ?_
        exact L_R_drawn_173 hΦ hrec_59 _ _ _ _ _ _ _ _ h
      · replace h := h.2 c14
        refine WP.blk [(.aload_n 0, 1, (0, 0), .null), (.getfield 25, 3, (7, 7), .null), (.iconst 5, 1, (0, 0), .int 5), (.iload 10, 2, (0, 0), .null), (.iastore, 1, (0, 0), .null)] (G := vp_in 5 35 ∧ True) (c' := (159, [some (.ref 39), some (.int x1), none, some (.int x2), some (.long x3), none, some (.int x4), some (.int x5), some (.int x6), some (.int x7), some (.int (x9 + x8)), none], [], (mu M 45 (Int32.toNatClampNeg 5) (x9 + x8)))) (by decide +kernel) rfl ⟨(vp_lit (by decide)), trivial⟩ ?_
        replace h := h (mu M 45 (Int32.toNatClampNeg 5) (x9 + x8)) rfl
        generalize (mu M 45 (Int32.toNatClampNeg 5) (x9 + x8)) = M15 at h ⊢
        refine WP.blk [(.iload 6, 2, (0, 0), .null), (.aload_n 0, 1, (0, 0), .null), (.getfield 25, 3, (7, 7), .null), (.iload 10, 2, (0, 0), .null)] (G := True) (c' := (167, [some (.ref 39), some (.int x1), none, some (.int x2), some (.long x3), none, some (.int x4), some (.int x5), some (.int x6), some (.int x7), some (.int (x9 + x8)), none], [.int (x9 + x8), .ref 45, .int x4], M15)) (by decide +kernel) rfl trivial ?_
        refine WP.call (.invokestatic 172, 3, (167, 2), .null) (by decide +kernel) rfl (sp_R_shiftOnto (d := d + 1) (by decide) h (fun r16 h => ?_))
        show WP (Ct (d + 2)) 193 Post (170, [some (.ref 39), some (.int x1), none, some (.int x2), some (.long x3), none, some (.int x4), some (.int x5), some (.int x6), some (.int x7), some (.int (x9 + x8)), none], [.int r16, .int x4], M15)
        refine WP.blk [(.iadd, 1, (0, 0), .null), (.istore 6, 2, (0, 0), .null)] (G := True) (c' := (173, [some (.ref 39), some (.int x1), none, some (.int x2), some (.long x3), none, some (.int (x4 + r16)), some (.int x5), some (.int x6), some (.int x7), some (.int (x9 + x8)), none], [], M15)) (by decide +kernel) rfl trivial ?_
        refine WP.fgt [some (.ref 39), some (.int x1), none, some (.int x2), some (.long x3), none, some (.int (x4 + r16)), some (.int x5), some (.int x6), some (.int x7), none, none] (by simp [fgt]) ?_
        exact L_R_drawn_173 hΦ hrec_59 _ _ _ _ _ _ _ _ h
set_option maxRecDepth 100000 in
set_option maxHeartbeats 4000000 in
theorem L_R_drawn_59 {d : Nat} {Post : Option Value → Mm → Prop} {rec_59 : Int32 × Int32 × Int64 × Int32 × Int32 × Int32 × Mm → Prop} {Φ : Int32 → Mm → Prop} (hΦ : ∀ r M1, Φ r M1 → Post (some (.int r)) M1) (hrec_59 : ∀ (x1 : Int32) (x2 : Int32) (x3 : Int64) (x4 : Int32) (x5 : Int32) (x6 : Int32) (M : Mm), rec_59 (x1, x2, x3, x4, x5, x6, M) → WP (Ct (d + 2)) 193 Post (59, [some (.ref 39), some (.int x1), none, some (.int x2), some (.long x3), none, some (.int x4), some (.int x5), some (.int x6), none, none, none], [], M)) : ∀ (x1 : Int32) (x2 : Int32) (x3 : Int64) (x4 : Int32) (x5 : Int32) (x6 : Int32) (M : Mm), D_R_drawn_59 Φ rec_59 (x1, x2, x3, x4, x5, x6, M) → WP (Ct (d + 2)) 193 Post (59, [some (.ref 39), some (.int x1), none, some (.int x2), some (.long x3), none, some (.int x4), some (.int x5), some (.int x6), none, none, none], [], M) := by
  intro x1 x2 x3 x4 x5 x6 M h
  replace h : ((x1 ≤ x6 → ((x2 = 0 → Φ x4 M) ∧ (¬ (x2 = 0) → Φ x5 M))) ∧ (¬ (x1 ≤ x6) → (((Int64.toInt32 (lrm (lrm (x3 * 16807) 2147483647) 4)) = 0 → D_R_drawn_102 Φ rec_59 (x1, x2, (lrm (x3 * 16807) 2147483647), x4, x5, x6, (Int64.toInt32 (lrm (lrm (x3 * 16807) 2147483647) 4)), 1, (M 45 (Int32.toNatClampNeg 5)), M)) ∧ (¬ ((Int64.toInt32 (lrm (lrm (x3 * 16807) 2147483647) 4)) = 0) → D_R_drawn_102 Φ rec_59 (x1, x2, (lrm (x3 * 16807) 2147483647), x4, x5, x6, (Int64.toInt32 (lrm (lrm (x3 * 16807) 2147483647) 4)), (-1), (M 45 (Int32.toNatClampNeg 5)), M))))) := h
  refine WP.blk [(.iload 8, 2, (0, 0), .null), (.iload_n 1, 1, (0, 0), .null)] (G := True) (c' := (62, [some (.ref 39), some (.int x1), none, some (.int x2), some (.long x3), none, some (.int x4), some (.int x5), some (.int x6), none, none, none], [.int x1, .int x6], M)) (by decide +kernel) rfl trivial ?_
  refine WP.br (.if_icmp .ge 259, 3, (321, 0), .null) (by decide +kernel) rfl (fun c7 => ?_) (fun c7 => ?_)
  · replace h := h.1 c7
    refine WP.blk [(.iload_n 3, 1, (0, 0), .null)] (G := True) (c' := (322, [some (.ref 39), some (.int x1), none, some (.int x2), some (.long x3), none, some (.int x4), some (.int x5), some (.int x6), none, none, none], [.int x2], M)) (by decide +kernel) rfl trivial ?_
    refine WP.br (.ifCond .ne 8, 3, (330, 0), .null) (by decide +kernel) rfl (fun c8 => ?_) (fun c8 => ?_)
    · replace h := h.2 c8
      refine WP.blk [(.iload 7, 2, (0, 0), .null)] (G := True) (c' := (332, [some (.ref 39), some (.int x1), none, some (.int x2), some (.long x3), none, some (.int x4), some (.int x5), some (.int x6), none, none, none], [.int x5], M)) (by decide +kernel) rfl trivial ?_
      exact WP.ret (.ireturn, 1, (0, 0), .null) (rk := 1) (by decide +kernel) (by decide +kernel) rfl trivial (hΦ _ _ h)
    · replace h := h.1 (Classical.not_not.mp c8)
      refine WP.blk [(.iload 6, 2, (0, 0), .null), (.goto 5, 3, (332, 0), .null)] (G := True) (c' := (332, [some (.ref 39), some (.int x1), none, some (.int x2), some (.long x3), none, some (.int x4), some (.int x5), some (.int x6), none, none, none], [.int x4], M)) (by decide +kernel) rfl trivial ?_
      exact WP.ret (.ireturn, 1, (0, 0), .null) (rk := 1) (by decide +kernel) (by decide +kernel) rfl trivial (hΦ _ _ h)
  · replace h := h.2 c7
    refine WP.blk [(.lload 4, 2, (0, 0), .null), (.ldc2_w 206, 3, (0, 0), .long (16807)), (.lmul, 1, (0, 0), .null), (.ldc2_w 208, 3, (0, 0), .long (2147483647)), (.lrem, 1, (0, 0), .null), (.lstore 4, 2, (0, 0), .null), (.lload 4, 2, (0, 0), .null), (.ldc2_w 210, 3, (0, 0), .long (4)), (.lrem, 1, (0, 0), .null), (.l2i, 1, (0, 0), .null), (.istore 9, 2, (0, 0), .null), (.aload_n 0, 1, (0, 0), .null), (.getfield 25, 3, (7, 7), .null), (.iconst 5, 1, (0, 0), .int 5), (.iaload, 1, (0, 0), .null), (.iload 9, 2, (0, 0), .null)] (G := ¬ (2147483647 : Int64) = 0 ∧ ¬ (4 : Int64) = 0 ∧ vp_in 5 35 ∧ True) (c' := (94, [some (.ref 39), some (.int x1), none, some (.int x2), some (.long (lrm (x3 * 16807) 2147483647)), none, some (.int x4), some (.int x5), some (.int x6), some (.int (Int64.toInt32 (lrm (lrm (x3 * 16807) 2147483647) 4))), none, none], [.int (Int64.toInt32 (lrm (lrm (x3 * 16807) 2147483647) 4)), .int (M 45 (Int32.toNatClampNeg 5))], M)) (by decide +kernel) rfl ⟨(by decide), (by decide), (vp_lit (by decide)), trivial⟩ ?_
    refine WP.br (.ifCond .ne 7, 3, (101, 0), .null) (by decide +kernel) rfl (fun c9 => ?_) (fun c9 => ?_)
    · replace h := h.2 c9
      refine WP.blk [(.iconst (-1), 1, (0, 0), .int (-1))] (G := True) (c' := (102, [some (.ref 39), some (.int x1), none, some (.int x2), some (.long (lrm (x3 * 16807) 2147483647)), none, some (.int x4), some (.int x5), some (.int x6), some (.int (Int64.toInt32 (lrm (lrm (x3 * 16807) 2147483647) 4))), none, none], [.int (-1), .int (M 45 (Int32.toNatClampNeg 5))], M)) (by decide +kernel) rfl trivial ?_
      exact L_R_drawn_102 hΦ hrec_59 _ _ _ _ _ _ _ _ _ _ h
    · replace h := h.1 (Classical.not_not.mp c9)
      refine WP.blk [(.iconst 1, 1, (0, 0), .int 1), (.goto 4, 3, (102, 0), .null)] (G := True) (c' := (102, [some (.ref 39), some (.int x1), none, some (.int x2), some (.long (lrm (x3 * 16807) 2147483647)), none, some (.int x4), some (.int x5), some (.int x6), some (.int (Int64.toInt32 (lrm (lrm (x3 * 16807) 2147483647) 4))), none, none], [.int 1, .int (M 45 (Int32.toNatClampNeg 5))], M)) (by decide +kernel) rfl trivial ?_
      exact L_R_drawn_102 hΦ hrec_59 _ _ _ _ _ _ _ _ _ _ h
theorem P_R_drawn_59 {d : Nat} {Post : Option Value → Mm → Prop} {Φ : Int32 → Mm → Prop} (hΦ : ∀ r M1, Φ r M1 → Post (some (.int r)) M1) : ∀ (n : Nat) (x1 : Int32) (x2 : Int32) (x3 : Int64) (x4 : Int32) (x5 : Int32) (x6 : Int32) (M : Mm), lp (D_R_drawn_59 Φ) n (x1, x2, x3, x4, x5, x6, M) → WP (Ct (d + 2)) 193 Post (59, [some (.ref 39), some (.int x1), none, some (.int x2), some (.long x3), none, some (.int x4), some (.int x5), some (.int x6), none, none, none], [], M)
  | 0, x1, x2, x3, x4, x5, x6, M, h => absurd h (by simp [lp])
  | n + 1, x1, x2, x3, x4, x5, x6, M, h => L_R_drawn_59 hΦ (P_R_drawn_59 hΦ n) x1 x2 x3 x4 x5 x6 M h
set_option maxRecDepth 100000 in
set_option maxHeartbeats 4000000 in
theorem sp_R_drawn {d : Nat} {Post : Option Value → Mm → Prop} {M : Mm} {a1 : Int32} {a2 : Int32} {a3 : Int32} {Φ : Int32 → Mm → Prop} (h : S_R_drawn M a1 a2 a3 Φ) (hΦ : ∀ r M1, Φ r M1 → Post (some (.int r)) M1) : Ct (d + 3) 193 [.ref 39, .int a1, .int a2, .int a3] M Post := by
  refine Ct.go (n := 12) (E := [some (.ref 39), some (.int a1), some (.int a2), some (.int a3), none, none, none, none, none, none, none, none]) (by decide +kernel) (by simp [Value.category]) rfl ?_
  refine WP.blk [(.aload_n 0, 1, (0, 0), .null), (.getfield 136, 3, (7, 5), .null)] (G := True) (c' := (4, [some (.ref 39), some (.int a1), some (.int a2), some (.int a3), none, none, none, none, none, none, none, none], [.int (M 39 5)], M)) (by decide +kernel) rfl trivial ?_
  refine WP.br (.ifCond .ne 6, 3, (10, 0), .null) (by decide +kernel) rfl (fun c1 => ?_) (fun c1 => ?_)
  · replace h := h.2 c1
    refine WP.blk [(.iload_n 1, 1, (0, 0), .null), (.iconst 0, 1, (0, 0), .int 0), (.bipush 60, 2, (0, 0), .int 60)] (G := True) (c' := (14, [some (.ref 39), some (.int a1), some (.int a2), some (.int a3), none, none, none, none, none, none, none, none], [.int 60, .int 0, .int a1], M)) (by decide +kernel) rfl trivial ?_
    refine WP.call (.invokestatic 53, 3, (135, 3), .null) (by decide +kernel) rfl (sp_R_in (d := d + 1) h (fun r2 h => ?_))
    show WP (Ct (d + 2)) 193 Post (17, [some (.ref 39), some (.int a1), some (.int a2), some (.int a3), none, none, none, none, none, none, none, none], [.int r2], M)
    refine WP.br (.ifCond .eq 22, 3, (39, 0), .null) (by decide +kernel) rfl (fun c3 => ?_) (fun c3 => ?_)
    · replace h := h.1 c3
      refine WP.blk [(.ldc 61, 2, (0, 0), .int (-1000001))] (G := True) (c' := (41, [some (.ref 39), some (.int a1), some (.int a2), some (.int a3), none, none, none, none, none, none, none, none], [.int (-1000001)], M)) (by decide +kernel) rfl trivial ?_
      exact WP.ret (.ireturn, 1, (0, 0), .null) (rk := 1) (by decide +kernel) (by decide +kernel) rfl trivial (hΦ _ _ h)
    · replace h := h.2 c3
      refine WP.blk [(.iload_n 2, 1, (0, 0), .null), (.iconst 1, 1, (0, 0), .int 1), (.ldc 205, 2, (0, 0), .int (999999))] (G := True) (c' := (24, [some (.ref 39), some (.int a1), some (.int a2), some (.int a3), none, none, none, none, none, none, none, none], [.int 999999, .int 1, .int a2], M)) (by decide +kernel) rfl trivial ?_
      refine WP.call (.invokestatic 53, 3, (135, 3), .null) (by decide +kernel) rfl (sp_R_in (d := d + 1) h (fun r4 h => ?_))
      show WP (Ct (d + 2)) 193 Post (27, [some (.ref 39), some (.int a1), some (.int a2), some (.int a3), none, none, none, none, none, none, none, none], [.int r4], M)
      refine WP.br (.ifCond .eq 12, 3, (39, 0), .null) (by decide +kernel) rfl (fun c5 => ?_) (fun c5 => ?_)
      · replace h := h.1 c5
        refine WP.blk [(.ldc 61, 2, (0, 0), .int (-1000001))] (G := True) (c' := (41, [some (.ref 39), some (.int a1), some (.int a2), some (.int a3), none, none, none, none, none, none, none, none], [.int (-1000001)], M)) (by decide +kernel) rfl trivial ?_
        exact WP.ret (.ireturn, 1, (0, 0), .null) (rk := 1) (by decide +kernel) (by decide +kernel) rfl trivial (hΦ _ _ h)
      · replace h := h.2 c5
        refine WP.blk [(.iload_n 3, 1, (0, 0), .null), (.iconst 0, 1, (0, 0), .int 0), (.iconst 1, 1, (0, 0), .int 1)] (G := True) (c' := (33, [some (.ref 39), some (.int a1), some (.int a2), some (.int a3), none, none, none, none, none, none, none, none], [.int 1, .int 0, .int a3], M)) (by decide +kernel) rfl trivial ?_
        refine WP.call (.invokestatic 53, 3, (135, 3), .null) (by decide +kernel) rfl (sp_R_in (d := d + 1) h (fun r6 h => ?_))
        show WP (Ct (d + 2)) 193 Post (36, [some (.ref 39), some (.int a1), some (.int a2), some (.int a3), none, none, none, none, none, none, none, none], [.int r6], M)
        refine WP.br (.ifCond .ne 6, 3, (42, 0), .null) (by decide +kernel) rfl (fun c7 => ?_) (fun c7 => ?_)
        · replace h := h.2 c7
          refine WP.blk [(.aload_n 0, 1, (0, 0), .null)] (G := True) (c' := (43, [some (.ref 39), some (.int a1), some (.int a2), some (.int a3), none, none, none, none, none, none, none, none], [.ref 39], M)) (by decide +kernel) rfl trivial ?_
          refine WP.call (.invokevirtual 199, 3, (190, 1), .retAddr 7) (by decide +kernel) rfl (sp_R_take (d := d + 1) h (fun M8 h => ?_))
          show WP (Ct (d + 2)) 193 Post (46, [some (.ref 39), some (.int a1), some (.int a2), some (.int a3), none, none, none, none, none, none, none, none], [], M8)
          refine WP.blk [(.iload_n 2, 1, (0, 0), .null), (.i2l, 1, (0, 0), .null), (.lstore 4, 2, (0, 0), .null), (.iconst 0, 1, (0, 0), .int 0), (.istore 6, 2, (0, 0), .null), (.iconst 0, 1, (0, 0), .int 0), (.istore 7, 2, (0, 0), .null), (.iconst 0, 1, (0, 0), .int 0), (.istore 8, 2, (0, 0), .null)] (G := True) (c' := (59, [some (.ref 39), some (.int a1), some (.int a2), some (.int a3), some (.long (Int32.toInt64 a2)), none, some (.int 0), some (.int 0), some (.int 0), none, none, none], [], M8)) (by decide +kernel) rfl trivial ?_
          refine WP.fgt [some (.ref 39), some (.int a1), none, some (.int a3), some (.long (Int32.toInt64 a2)), none, some (.int 0), some (.int 0), some (.int 0), none, none, none] (by simp [fgt]) ?_
          obtain ⟨n, h⟩ := h
          exact P_R_drawn_59 hΦ n _ _ _ _ _ _ _ h
        · replace h := h.1 (Classical.not_not.mp c7)
          refine WP.blk [(.ldc 61, 2, (0, 0), .int (-1000001))] (G := True) (c' := (41, [some (.ref 39), some (.int a1), some (.int a2), some (.int a3), none, none, none, none, none, none, none, none], [.int (-1000001)], M)) (by decide +kernel) rfl trivial ?_
          exact WP.ret (.ireturn, 1, (0, 0), .null) (rk := 1) (by decide +kernel) (by decide +kernel) rfl trivial (hΦ _ _ h)
  · replace h := h.1 (Classical.not_not.mp c1)
    refine WP.blk [(.ldc 154, 2, (0, 0), .int (-1000002))] (G := True) (c' := (9, [some (.ref 39), some (.int a1), some (.int a2), some (.int a3), none, none, none, none, none, none, none, none], [.int (-1000002)], M)) (by decide +kernel) rfl trivial ?_
    exact WP.ret (.ireturn, 1, (0, 0), .null) (rk := 1) (by decide +kernel) (by decide +kernel) rfl trivial (hΦ _ _ h)
/-- GearRoadModel.image(I)I -/
def D_R_image_24 (Φ : Int32 → Mm → Prop) (rec_24 : Int32 × Int32 × Mm → Prop) : Int32 × Int32 × Mm → Prop
  | (x1, x2, M) => ((35 ≤ x2 → vp_in x1 2 ∧ (∀ M4, M4 = mu M 48 (Int32.toNatClampNeg x1) (vp_nar .boolean 1) → Φ 1 M4)) ∧ (¬ (35 ≤ x2) → vp_in x2 35 ∧ vp_in ((35 * x1) + x2) 70 ∧ (∀ M5, M5 = mu M 47 (Int32.toNatClampNeg ((35 * x1) + x2)) (M 44 (Int32.toNatClampNeg x2)) → rec_24 (x1, (x2 + 1), M5))))
def S_R_image (M : Mm) (a1 : Int32) (Φ : Int32 → Mm → Prop) : Prop := S_R_in M a1 0 1 (fun r1 => ((r1 = 0 → Φ (-1000001) M) ∧ (¬ (r1 = 0) → (((M 39 5) = 0 → Φ (-1000002) M) ∧ (¬ ((M 39 5) = 0) → ∃ n, lp (D_R_image_24 Φ) n (a1, 0, M))))))
set_option maxRecDepth 100000 in
set_option maxHeartbeats 4000000 in
theorem L_R_image_24 {d : Nat} {Post : Option Value → Mm → Prop} {rec_24 : Int32 × Int32 × Mm → Prop} {Φ : Int32 → Mm → Prop} (hΦ : ∀ r M1, Φ r M1 → Post (some (.int r)) M1) (hrec_24 : ∀ (x1 : Int32) (x2 : Int32) (M : Mm), rec_24 (x1, x2, M) → WP (Ct (d + 1)) 194 Post (24, [some (.ref 39), some (.int x1), some (.int x2)], [], M)) : ∀ (x1 : Int32) (x2 : Int32) (M : Mm), D_R_image_24 Φ rec_24 (x1, x2, M) → WP (Ct (d + 1)) 194 Post (24, [some (.ref 39), some (.int x1), some (.int x2)], [], M) := by
  intro x1 x2 M h
  replace h : ((35 ≤ x2 → vp_in x1 2 ∧ (∀ M4, M4 = mu M 48 (Int32.toNatClampNeg x1) (vp_nar .boolean 1) → Φ 1 M4)) ∧ (¬ (35 ≤ x2) → vp_in x2 35 ∧ vp_in ((35 * x1) + x2) 70 ∧ (∀ M5, M5 = mu M 47 (Int32.toNatClampNeg ((35 * x1) + x2)) (M 44 (Int32.toNatClampNeg x2)) → rec_24 (x1, (x2 + 1), M5)))) := h
  refine WP.blk [(.iload_n 2, 1, (0, 0), .null), (.bipush 35, 2, (0, 0), .int 35)] (G := True) (c' := (27, [some (.ref 39), some (.int x1), some (.int x2)], [.int 35, .int x2], M)) (by decide +kernel) rfl trivial ?_
  refine WP.br (.if_icmp .ge 26, 3, (53, 0), .null) (by decide +kernel) rfl (fun c3 => ?_) (fun c3 => ?_)
  · replace h := h.1 c3
    refine WP.blk [(.aload_n 0, 1, (0, 0), .null), (.getfield 34, 3, (7, 11), .null), (.iload_n 1, 1, (0, 0), .null), (.iconst 1, 1, (0, 0), .int 1), (.bastore, 1, (0, 0), .null)] (G := vp_in x1 2 ∧ True) (c' := (60, [some (.ref 39), some (.int x1), some (.int x2)], [], (mu M 48 (Int32.toNatClampNeg x1) (vp_nar .boolean 1)))) (by decide +kernel) rfl ⟨h.1, trivial⟩ ?_
    replace h := h.2
    replace h := h (mu M 48 (Int32.toNatClampNeg x1) (vp_nar .boolean 1)) rfl
    generalize (mu M 48 (Int32.toNatClampNeg x1) (vp_nar .boolean 1)) = M4 at h ⊢
    refine WP.blk [(.iconst 1, 1, (0, 0), .int 1)] (G := True) (c' := (61, [some (.ref 39), some (.int x1), some (.int x2)], [.int 1], M4)) (by decide +kernel) rfl trivial ?_
    exact WP.ret (.ireturn, 1, (0, 0), .null) (rk := 1) (by decide +kernel) (by decide +kernel) rfl trivial (hΦ _ _ h)
  · replace h := h.2 c3
    refine WP.blk [(.aload_n 0, 1, (0, 0), .null), (.getfield 31, 3, (7, 10), .null), (.bipush 35, 2, (0, 0), .int 35), (.iload_n 1, 1, (0, 0), .null), (.imul, 1, (0, 0), .null), (.iload_n 2, 1, (0, 0), .null), (.iadd, 1, (0, 0), .null), (.aload_n 0, 1, (0, 0), .null), (.getfield 22, 3, (7, 6), .null), (.iload_n 2, 1, (0, 0), .null), (.iaload, 1, (0, 0), .null), (.iastore, 1, (0, 0), .null)] (G := vp_in x2 35 ∧ vp_in ((35 * x1) + x2) 70 ∧ True) (c' := (47, [some (.ref 39), some (.int x1), some (.int x2)], [], (mu M 47 (Int32.toNatClampNeg ((35 * x1) + x2)) (M 44 (Int32.toNatClampNeg x2))))) (by decide +kernel) rfl ⟨h.1, h.2.1, trivial⟩ ?_
    replace h := h.2.2
    replace h := h (mu M 47 (Int32.toNatClampNeg ((35 * x1) + x2)) (M 44 (Int32.toNatClampNeg x2))) rfl
    generalize (mu M 47 (Int32.toNatClampNeg ((35 * x1) + x2)) (M 44 (Int32.toNatClampNeg x2))) = M5 at h ⊢
    refine WP.blk [(.iinc 2 1, 3, (0, 0), .int 1), (.goto (-26), 3, (24, 0), .null)] (G := True) (c' := (24, [some (.ref 39), some (.int x1), some (.int (x2 + 1))], [], M5)) (by decide +kernel) rfl trivial ?_
    exact hrec_24 _ _ _ h
theorem P_R_image_24 {d : Nat} {Post : Option Value → Mm → Prop} {Φ : Int32 → Mm → Prop} (hΦ : ∀ r M1, Φ r M1 → Post (some (.int r)) M1) : ∀ (n : Nat) (x1 : Int32) (x2 : Int32) (M : Mm), lp (D_R_image_24 Φ) n (x1, x2, M) → WP (Ct (d + 1)) 194 Post (24, [some (.ref 39), some (.int x1), some (.int x2)], [], M)
  | 0, x1, x2, M, h => absurd h (by simp [lp])
  | n + 1, x1, x2, M, h => L_R_image_24 hΦ (P_R_image_24 hΦ n) x1 x2 M h
set_option maxRecDepth 100000 in
set_option maxHeartbeats 4000000 in
theorem sp_R_image {d : Nat} {Post : Option Value → Mm → Prop} {M : Mm} {a1 : Int32} {Φ : Int32 → Mm → Prop} (h : S_R_image M a1 Φ) (hΦ : ∀ r M1, Φ r M1 → Post (some (.int r)) M1) : Ct (d + 2) 194 [.ref 39, .int a1] M Post := by
  refine Ct.go (n := 3) (E := [some (.ref 39), some (.int a1), none]) (by decide +kernel) (by simp [Value.category]) rfl ?_
  refine WP.blk [(.iload_n 1, 1, (0, 0), .null), (.iconst 0, 1, (0, 0), .int 0), (.iconst 1, 1, (0, 0), .int 1)] (G := True) (c' := (3, [some (.ref 39), some (.int a1), none], [.int 1, .int 0, .int a1], M)) (by decide +kernel) rfl trivial ?_
  refine WP.call (.invokestatic 53, 3, (135, 3), .null) (by decide +kernel) rfl (sp_R_in (d := d + 0) h (fun r1 h => ?_))
  show WP (Ct (d + 1)) 194 Post (6, [some (.ref 39), some (.int a1), none], [.int r1], M)
  refine WP.br (.ifCond .ne 6, 3, (12, 0), .null) (by decide +kernel) rfl (fun c2 => ?_) (fun c2 => ?_)
  · replace h := h.2 c2
    refine WP.blk [(.aload_n 0, 1, (0, 0), .null), (.getfield 136, 3, (7, 5), .null)] (G := True) (c' := (16, [some (.ref 39), some (.int a1), none], [.int (M 39 5)], M)) (by decide +kernel) rfl trivial ?_
    refine WP.br (.ifCond .ne 6, 3, (22, 0), .null) (by decide +kernel) rfl (fun c3 => ?_) (fun c3 => ?_)
    · replace h := h.2 c3
      refine WP.blk [(.iconst 0, 1, (0, 0), .int 0), (.istore_n 2, 1, (0, 0), .null)] (G := True) (c' := (24, [some (.ref 39), some (.int a1), some (.int 0)], [], M)) (by decide +kernel) rfl trivial ?_
      obtain ⟨n, h⟩ := h
      exact P_R_image_24 hΦ n _ _ _ h
    · replace h := h.1 (Classical.not_not.mp c3)
      refine WP.blk [(.ldc 154, 2, (0, 0), .int (-1000002))] (G := True) (c' := (21, [some (.ref 39), some (.int a1), none], [.int (-1000002)], M)) (by decide +kernel) rfl trivial ?_
      exact WP.ret (.ireturn, 1, (0, 0), .null) (rk := 1) (by decide +kernel) (by decide +kernel) rfl trivial (hΦ _ _ h)
  · replace h := h.1 (Classical.not_not.mp c2)
    refine WP.blk [(.ldc 61, 2, (0, 0), .int (-1000001))] (G := True) (c' := (11, [some (.ref 39), some (.int a1), none], [.int (-1000001)], M)) (by decide +kernel) rfl trivial ?_
    exact WP.ret (.ireturn, 1, (0, 0), .null) (rk := 1) (by decide +kernel) (by decide +kernel) rfl trivial (hΦ _ _ h)
/-- GearRoadModel.restore(I)I -/
def D_R_restore_26 (Φ : Int32 → Mm → Prop) (rec_26 : Int32 × Int32 × Mm → Prop) : Int32 × Int32 × Mm → Prop
  | (x1, x2, M) => ((35 ≤ x2 → (∀ M4, M4 = mu M 39 9 0 → Φ 1 M4)) ∧ (¬ (35 ≤ x2) → vp_in ((35 * x1) + x2) 70 ∧ vp_in x2 35 ∧ (∀ M5, M5 = mu M 44 (Int32.toNatClampNeg x2) (M 47 (Int32.toNatClampNeg ((35 * x1) + x2))) → rec_26 (x1, (x2 + 1), M5))))
def S_R_restore (M : Mm) (a1 : Int32) (Φ : Int32 → Mm → Prop) : Prop := S_R_in M a1 0 1 (fun r1 => ((r1 = 0 → Φ (-1000001) M) ∧ (¬ (r1 = 0) → vp_in a1 2 ∧ (((M 48 (Int32.toNatClampNeg a1)) = 0 → Φ (-1000002) M) ∧ (¬ ((M 48 (Int32.toNatClampNeg a1)) = 0) → ∃ n, lp (D_R_restore_26 Φ) n (a1, 0, M))))))
set_option maxRecDepth 100000 in
set_option maxHeartbeats 4000000 in
theorem L_R_restore_26 {d : Nat} {Post : Option Value → Mm → Prop} {rec_26 : Int32 × Int32 × Mm → Prop} {Φ : Int32 → Mm → Prop} (hΦ : ∀ r M1, Φ r M1 → Post (some (.int r)) M1) (hrec_26 : ∀ (x1 : Int32) (x2 : Int32) (M : Mm), rec_26 (x1, x2, M) → WP (Ct (d + 1)) 195 Post (26, [some (.ref 39), some (.int x1), some (.int x2)], [], M)) : ∀ (x1 : Int32) (x2 : Int32) (M : Mm), D_R_restore_26 Φ rec_26 (x1, x2, M) → WP (Ct (d + 1)) 195 Post (26, [some (.ref 39), some (.int x1), some (.int x2)], [], M) := by
  intro x1 x2 M h
  replace h : ((35 ≤ x2 → (∀ M4, M4 = mu M 39 9 0 → Φ 1 M4)) ∧ (¬ (35 ≤ x2) → vp_in ((35 * x1) + x2) 70 ∧ vp_in x2 35 ∧ (∀ M5, M5 = mu M 44 (Int32.toNatClampNeg x2) (M 47 (Int32.toNatClampNeg ((35 * x1) + x2))) → rec_26 (x1, (x2 + 1), M5)))) := h
  refine WP.blk [(.iload_n 2, 1, (0, 0), .null), (.bipush 35, 2, (0, 0), .int 35)] (G := True) (c' := (29, [some (.ref 39), some (.int x1), some (.int x2)], [.int 35, .int x2], M)) (by decide +kernel) rfl trivial ?_
  refine WP.br (.if_icmp .ge 26, 3, (55, 0), .null) (by decide +kernel) rfl (fun c3 => ?_) (fun c3 => ?_)
  · replace h := h.1 c3
    refine WP.blk [(.aload_n 0, 1, (0, 0), .null), (.iconst 0, 1, (0, 0), .int 0), (.putfield 76, 3, (7, 9), .null)] (G := True) (c' := (60, [some (.ref 39), some (.int x1), some (.int x2)], [], (mu M 39 9 0))) (by decide +kernel) rfl trivial ?_
    replace h := h (mu M 39 9 0) rfl
    generalize (mu M 39 9 0) = M4 at h ⊢
    refine WP.blk [(.iconst 1, 1, (0, 0), .int 1)] (G := True) (c' := (61, [some (.ref 39), some (.int x1), some (.int x2)], [.int 1], M4)) (by decide +kernel) rfl trivial ?_
    exact WP.ret (.ireturn, 1, (0, 0), .null) (rk := 1) (by decide +kernel) (by decide +kernel) rfl trivial (hΦ _ _ h)
  · replace h := h.2 c3
    refine WP.blk [(.aload_n 0, 1, (0, 0), .null), (.getfield 22, 3, (7, 6), .null), (.iload_n 2, 1, (0, 0), .null), (.aload_n 0, 1, (0, 0), .null), (.getfield 31, 3, (7, 10), .null), (.bipush 35, 2, (0, 0), .int 35), (.iload_n 1, 1, (0, 0), .null), (.imul, 1, (0, 0), .null), (.iload_n 2, 1, (0, 0), .null), (.iadd, 1, (0, 0), .null), (.iaload, 1, (0, 0), .null), (.iastore, 1, (0, 0), .null)] (G := vp_in ((35 * x1) + x2) 70 ∧ vp_in x2 35 ∧ True) (c' := (49, [some (.ref 39), some (.int x1), some (.int x2)], [], (mu M 44 (Int32.toNatClampNeg x2) (M 47 (Int32.toNatClampNeg ((35 * x1) + x2)))))) (by decide +kernel) rfl ⟨h.1, h.2.1, trivial⟩ ?_
    replace h := h.2.2
    replace h := h (mu M 44 (Int32.toNatClampNeg x2) (M 47 (Int32.toNatClampNeg ((35 * x1) + x2)))) rfl
    generalize (mu M 44 (Int32.toNatClampNeg x2) (M 47 (Int32.toNatClampNeg ((35 * x1) + x2)))) = M5 at h ⊢
    refine WP.blk [(.iinc 2 1, 3, (0, 0), .int 1), (.goto (-26), 3, (26, 0), .null)] (G := True) (c' := (26, [some (.ref 39), some (.int x1), some (.int (x2 + 1))], [], M5)) (by decide +kernel) rfl trivial ?_
    exact hrec_26 _ _ _ h
theorem P_R_restore_26 {d : Nat} {Post : Option Value → Mm → Prop} {Φ : Int32 → Mm → Prop} (hΦ : ∀ r M1, Φ r M1 → Post (some (.int r)) M1) : ∀ (n : Nat) (x1 : Int32) (x2 : Int32) (M : Mm), lp (D_R_restore_26 Φ) n (x1, x2, M) → WP (Ct (d + 1)) 195 Post (26, [some (.ref 39), some (.int x1), some (.int x2)], [], M)
  | 0, x1, x2, M, h => absurd h (by simp [lp])
  | n + 1, x1, x2, M, h => L_R_restore_26 hΦ (P_R_restore_26 hΦ n) x1 x2 M h
set_option maxRecDepth 100000 in
set_option maxHeartbeats 4000000 in
theorem sp_R_restore {d : Nat} {Post : Option Value → Mm → Prop} {M : Mm} {a1 : Int32} {Φ : Int32 → Mm → Prop} (h : S_R_restore M a1 Φ) (hΦ : ∀ r M1, Φ r M1 → Post (some (.int r)) M1) : Ct (d + 2) 195 [.ref 39, .int a1] M Post := by
  refine Ct.go (n := 3) (E := [some (.ref 39), some (.int a1), none]) (by decide +kernel) (by simp [Value.category]) rfl ?_
  refine WP.blk [(.iload_n 1, 1, (0, 0), .null), (.iconst 0, 1, (0, 0), .int 0), (.iconst 1, 1, (0, 0), .int 1)] (G := True) (c' := (3, [some (.ref 39), some (.int a1), none], [.int 1, .int 0, .int a1], M)) (by decide +kernel) rfl trivial ?_
  refine WP.call (.invokestatic 53, 3, (135, 3), .null) (by decide +kernel) rfl (sp_R_in (d := d + 0) h (fun r1 h => ?_))
  show WP (Ct (d + 1)) 195 Post (6, [some (.ref 39), some (.int a1), none], [.int r1], M)
  refine WP.br (.ifCond .ne 6, 3, (12, 0), .null) (by decide +kernel) rfl (fun c2 => ?_) (fun c2 => ?_)
  · replace h := h.2 c2
    refine WP.blk [(.aload_n 0, 1, (0, 0), .null), (.getfield 34, 3, (7, 11), .null), (.iload_n 1, 1, (0, 0), .null), (.baload, 1, (0, 0), .null)] (G := vp_in a1 2 ∧ True) (c' := (18, [some (.ref 39), some (.int a1), none], [.int (M 48 (Int32.toNatClampNeg a1))], M)) (by decide +kernel) rfl ⟨h.1, trivial⟩ ?_
    replace h := h.2
    refine WP.br (.ifCond .ne 6, 3, (24, 0), .null) (by decide +kernel) rfl (fun c3 => ?_) (fun c3 => ?_)
    · replace h := h.2 c3
      refine WP.blk [(.iconst 0, 1, (0, 0), .int 0), (.istore_n 2, 1, (0, 0), .null)] (G := True) (c' := (26, [some (.ref 39), some (.int a1), some (.int 0)], [], M)) (by decide +kernel) rfl trivial ?_
      obtain ⟨n, h⟩ := h
      exact P_R_restore_26 hΦ n _ _ _ h
    · replace h := h.1 (Classical.not_not.mp c3)
      refine WP.blk [(.ldc 154, 2, (0, 0), .int (-1000002))] (G := True) (c' := (23, [some (.ref 39), some (.int a1), none], [.int (-1000002)], M)) (by decide +kernel) rfl trivial ?_
      exact WP.ret (.ireturn, 1, (0, 0), .null) (rk := 1) (by decide +kernel) (by decide +kernel) rfl trivial (hΦ _ _ h)
  · replace h := h.1 (Classical.not_not.mp c2)
    refine WP.blk [(.ldc 61, 2, (0, 0), .int (-1000001))] (G := True) (c' := (11, [some (.ref 39), some (.int a1), none], [.int (-1000001)], M)) (by decide +kernel) rfl trivial ?_
    exact WP.ret (.ireturn, 1, (0, 0), .null) (rk := 1) (by decide +kernel) (by decide +kernel) rfl trivial (hΦ _ _ h)
/-- GearRoadModel.kind(I)I -/
def S_R_kind (M : Mm) (a1 : Int32) (Φ : Int32 → Prop) : Prop := S_R_isCog M a1 (fun r1 => ((r1 = 0 → Φ (-1000001)) ∧ (¬ (r1 = 0) → vp_in (11 + a1) 35 ∧ Φ (M 44 (Int32.toNatClampNeg (11 + a1))))))
set_option maxRecDepth 100000 in
set_option maxHeartbeats 4000000 in
theorem sp_R_kind {d : Nat} {Post : Option Value → Mm → Prop} {M : Mm} {a1 : Int32} {Φ : Int32 → Prop} (h : S_R_kind M a1 Φ) (hΦ : ∀ r, Φ r → Post (some (.int r)) M) : Ct (d + 3) 196 [.ref 39, .int a1] M Post := by
  refine Ct.go (n := 2) (E := [some (.ref 39), some (.int a1)]) (by decide +kernel) (by simp [Value.category]) rfl ?_
  refine WP.blk [(.aload_n 0, 1, (0, 0), .null), (.iload_n 1, 1, (0, 0), .null)] (G := True) (c' := (2, [some (.ref 39), some (.int a1)], [.int a1, .ref 39], M)) (by decide +kernel) rfl trivial ?_
  refine WP.call (.invokevirtual 166, 3, (165, 2), .retAddr 7) (by decide +kernel) rfl (sp_R_isCog (d := d + 0) h (fun r1 h => ?_))
  show WP (Ct (d + 2)) 196 Post (5, [some (.ref 39), some (.int a1)], [.int r1], M)
  refine WP.br (.ifCond .eq 15, 3, (20, 0), .null) (by decide +kernel) rfl (fun c2 => ?_) (fun c2 => ?_)
  · replace h := h.1 c2
    refine WP.blk [(.ldc 61, 2, (0, 0), .int (-1000001))] (G := True) (c' := (22, [some (.ref 39), some (.int a1)], [.int (-1000001)], M)) (by decide +kernel) rfl trivial ?_
    exact WP.ret (.ireturn, 1, (0, 0), .null) (rk := 1) (by decide +kernel) (by decide +kernel) rfl trivial (hΦ _ h)
  · replace h := h.2 c2
    refine WP.blk [(.aload_n 0, 1, (0, 0), .null), (.getfield 22, 3, (7, 6), .null), (.bipush 11, 2, (0, 0), .int 11), (.iload_n 1, 1, (0, 0), .null), (.iadd, 1, (0, 0), .null), (.iaload, 1, (0, 0), .null), (.goto 5, 3, (22, 0), .null)] (G := vp_in (11 + a1) 35 ∧ True) (c' := (22, [some (.ref 39), some (.int a1)], [.int (M 44 (Int32.toNatClampNeg (11 + a1)))], M)) (by decide +kernel) rfl ⟨h.1, trivial⟩ ?_
    replace h := h.2
    exact WP.ret (.ireturn, 1, (0, 0), .null) (rk := 1) (by decide +kernel) (by decide +kernel) rfl trivial (hΦ _ h)
/-- GearRoadModel.as(II)I -/
def D_R_as_64 (Φ : Int32 → Mm → Prop) : Int32 × Int32 × Mm → Prop
  | (x1, x2, M) => ((x2 = 0 → S_R_found M 3 (fun r4 M4 => Φ r4 M4)) ∧ (¬ (x2 = 0) → S_R_well M x1 (fun r5 M5 => Φ r5 M5)))
def D_R_as_63 (Φ : Int32 → Mm → Prop) : Int32 × Mm → Prop
  | (x1, M) => D_R_as_64 Φ (x1, 0, M)
def D_R_as_59 (Φ : Int32 → Mm → Prop) : Int32 × Mm → Prop
  | (x1, M) => D_R_as_64 Φ (x1, 1, M)
def D_R_as_49 (Φ : Int32 → Mm → Prop) : Int32 × Int32 × Int32 × Mm → Prop
  | (x1, x2, x3, M) => ((x2 = 4 → ((x3 = 5 → D_R_as_59 Φ (x1, M)) ∧ (¬ (x3 = 5) → D_R_as_63 Φ (x1, M)))) ∧ (¬ (x2 = 4) → D_R_as_63 Φ (x1, M)))
def S_R_as (M : Mm) (a1 : Int32) (a2 : Int32) (Φ : Int32 → Mm → Prop) : Prop := S_R_isCog M a1 (fun r1 => ((r1 = 0 → Φ (-1000001) M) ∧ (¬ (r1 = 0) → S_R_in M a2 0 5 (fun r3 => ((r3 = 0 → Φ (-1000001) M) ∧ (¬ (r3 = 0) → vp_in (11 + a1) 35 ∧ ((a2 = 0 → D_R_as_59 Φ (a1, M)) ∧ (¬ (a2 = 0) → ((a2 = (M 44 (Int32.toNatClampNeg (11 + a1))) → D_R_as_59 Φ (a1, M)) ∧ (¬ (a2 = (M 44 (Int32.toNatClampNeg (11 + a1)))) → ((a2 = 1 → (((M 44 (Int32.toNatClampNeg (11 + a1))) ≤ 3 → D_R_as_59 Φ (a1, M)) ∧ (¬ ((M 44 (Int32.toNatClampNeg (11 + a1))) ≤ 3) → D_R_as_49 Φ (a1, a2, (M 44 (Int32.toNatClampNeg (11 + a1))), M)))) ∧ (¬ (a2 = 1) → D_R_as_49 Φ (a1, a2, (M 44 (Int32.toNatClampNeg (11 + a1))), M)))))))))))))
set_option maxRecDepth 100000 in
set_option maxHeartbeats 4000000 in
theorem L_R_as_64 {d : Nat} {Post : Option Value → Mm → Prop} {Φ : Int32 → Mm → Prop} (hΦ : ∀ r M1, Φ r M1 → Post (some (.int r)) M1) : ∀ (x1 : Int32) (x2 : Int32) (M : Mm), D_R_as_64 Φ (x1, x2, M) → WP (Ct (d + 2)) 197 Post (64, [some (.ref 39), some (.int x1), none, none, none], [.int x2], M) := by
  intro x1 x2 M h
  replace h : ((x2 = 0 → S_R_found M 3 (fun r4 M4 => Φ r4 M4)) ∧ (¬ (x2 = 0) → S_R_well M x1 (fun r5 M5 => Φ r5 M5))) := h
  refine WP.blk [(.istore 4, 2, (0, 0), .null), (.iload 4, 2, (0, 0), .null)] (G := True) (c' := (68, [some (.ref 39), some (.int x1), none, none, some (.int x2)], [.int x2], M)) (by decide +kernel) rfl trivial ?_
  refine WP.br (.ifCond .eq 11, 3, (79, 0), .null) (by decide +kernel) rfl (fun c3 => ?_) (fun c3 => ?_)
  · replace h := h.1 c3
    refine WP.blk [(.aload_n 0, 1, (0, 0), .null), (.iconst 3, 1, (0, 0), .int 3)] (G := True) (c' := (81, [some (.ref 39), some (.int x1), none, none, some (.int x2)], [.int 3, .ref 39], M)) (by decide +kernel) rfl trivial ?_
    refine WP.call (.invokevirtual 62, 3, (136, 2), .retAddr 7) (by decide +kernel) rfl (sp_R_found (d := d + 1) h (fun r4 M4 h => ?_))
    show WP (Ct (d + 2)) 197 Post (84, [some (.ref 39), some (.int x1), none, none, some (.int x2)], [.int r4], M4)
    exact WP.ret (.ireturn, 1, (0, 0), .null) (rk := 1) (by decide +kernel) (by decide +kernel) rfl trivial (hΦ _ _ h)
  · replace h := h.2 c3
    refine WP.blk [(.aload_n 0, 1, (0, 0), .null), (.iload_n 1, 1, (0, 0), .null)] (G := True) (c' := (73, [some (.ref 39), some (.int x1), none, none, some (.int x2)], [.int x1, .ref 39], M)) (by decide +kernel) rfl trivial ?_
    refine WP.call (.invokevirtual 66, 3, (137, 2), .retAddr 7) (by decide +kernel) rfl (sp_R_well (d := d + 1) h (fun r5 M5 h => ?_))
    show WP (Ct (d + 2)) 197 Post (76, [some (.ref 39), some (.int x1), none, none, some (.int x2)], [.int r5], M5)
    refine WP.blk [(.goto 8, 3, (84, 0), .null)] (G := True) (c' := (84, [some (.ref 39), some (.int x1), none, none, some (.int x2)], [.int r5], M5)) (by decide +kernel) rfl trivial ?_
    exact WP.ret (.ireturn, 1, (0, 0), .null) (rk := 1) (by decide +kernel) (by decide +kernel) rfl trivial (hΦ _ _ h)
set_option maxRecDepth 100000 in
set_option maxHeartbeats 4000000 in
theorem L_R_as_63 {d : Nat} {Post : Option Value → Mm → Prop} {Φ : Int32 → Mm → Prop} (hΦ : ∀ r M1, Φ r M1 → Post (some (.int r)) M1) : ∀ (x1 : Int32) (M : Mm), D_R_as_63 Φ (x1, M) → WP (Ct (d + 2)) 197 Post (63, [some (.ref 39), some (.int x1), none, none, none], [], M) := by
  intro x1 M h
  replace h : D_R_as_64 Φ (x1, 0, M) := h
  refine WP.blk [(.iconst 0, 1, (0, 0), .int 0)] (G := True) (c' := (64, [some (.ref 39), some (.int x1), none, none, none], [.int 0], M)) (by decide +kernel) rfl trivial ?_
  exact L_R_as_64 hΦ _ _ _ h
set_option maxRecDepth 100000 in
set_option maxHeartbeats 4000000 in
theorem L_R_as_59 {d : Nat} {Post : Option Value → Mm → Prop} {Φ : Int32 → Mm → Prop} (hΦ : ∀ r M1, Φ r M1 → Post (some (.int r)) M1) : ∀ (x1 : Int32) (M : Mm), D_R_as_59 Φ (x1, M) → WP (Ct (d + 2)) 197 Post (59, [some (.ref 39), some (.int x1), none, none, none], [], M) := by
  intro x1 M h
  replace h : D_R_as_64 Φ (x1, 1, M) := h
  refine WP.blk [(.iconst 1, 1, (0, 0), .int 1), (.goto 4, 3, (64, 0), .null)] (G := True) (c' := (64, [some (.ref 39), some (.int x1), none, none, none], [.int 1], M)) (by decide +kernel) rfl trivial ?_
  exact L_R_as_64 hΦ _ _ _ h
set_option maxRecDepth 100000 in
set_option maxHeartbeats 4000000 in
theorem L_R_as_49 {d : Nat} {Post : Option Value → Mm → Prop} {Φ : Int32 → Mm → Prop} (hΦ : ∀ r M1, Φ r M1 → Post (some (.int r)) M1) : ∀ (x1 : Int32) (x2 : Int32) (x3 : Int32) (M : Mm), D_R_as_49 Φ (x1, x2, x3, M) → WP (Ct (d + 2)) 197 Post (49, [some (.ref 39), some (.int x1), some (.int x2), some (.int x3), none], [], M) := by
  intro x1 x2 x3 M h
  replace h : ((x2 = 4 → ((x3 = 5 → D_R_as_59 Φ (x1, M)) ∧ (¬ (x3 = 5) → D_R_as_63 Φ (x1, M)))) ∧ (¬ (x2 = 4) → D_R_as_63 Φ (x1, M))) := h
  refine WP.blk [(.iload_n 2, 1, (0, 0), .null), (.iconst 4, 1, (0, 0), .int 4)] (G := True) (c' := (51, [some (.ref 39), some (.int x1), some (.int x2), some (.int x3), none], [.int 4, .int x2], M)) (by decide +kernel) rfl trivial ?_
  refine WP.br (.if_icmp .ne 12, 3, (63, 0), .null) (by decide +kernel) rfl (fun c4 => ?_) (fun c4 => ?_)
  · replace h := h.2 c4
    refine WP.fgt [some (.ref 39), some (.int x1), none, none, none] (by simp [fgt]) ?_
    exact L_R_as_63 hΦ _ _ h
  · replace h := h.1 (Classical.not_not.mp c4)
    refine WP.blk [(.iload_n 3, 1, (0, 0), .null), (.iconst 5, 1, (0, 0), .int 5)] (G := True) (c' := (56, [some (.ref 39), some (.int x1), some (.int x2), some (.int x3), none], [.int 5, .int x3], M)) (by decide +kernel) rfl trivial ?_
    refine WP.br (.if_icmp .ne 7, 3, (63, 0), .null) (by decide +kernel) rfl (fun c5 => ?_) (fun c5 => ?_)
    · replace h := h.2 c5
      refine WP.fgt [some (.ref 39), some (.int x1), none, none, none] (by simp [fgt]) ?_
      exact L_R_as_63 hΦ _ _ h
    · replace h := h.1 (Classical.not_not.mp c5)
      refine WP.fgt [some (.ref 39), some (.int x1), none, none, none] (by simp [fgt]) ?_
      exact L_R_as_59 hΦ _ _ h
set_option maxRecDepth 100000 in
set_option maxHeartbeats 4000000 in
theorem sp_R_as {d : Nat} {Post : Option Value → Mm → Prop} {M : Mm} {a1 : Int32} {a2 : Int32} {Φ : Int32 → Mm → Prop} (h : S_R_as M a1 a2 Φ) (hΦ : ∀ r M1, Φ r M1 → Post (some (.int r)) M1) : Ct (d + 3) 197 [.ref 39, .int a1, .int a2] M Post := by
  refine Ct.go (n := 5) (E := [some (.ref 39), some (.int a1), some (.int a2), none, none]) (by decide +kernel) (by simp [Value.category]) rfl ?_
  refine WP.blk [(.aload_n 0, 1, (0, 0), .null), (.iload_n 1, 1, (0, 0), .null)] (G := True) (c' := (2, [some (.ref 39), some (.int a1), some (.int a2), none, none], [.int a1, .ref 39], M)) (by decide +kernel) rfl trivial ?_
  refine WP.call (.invokevirtual 166, 3, (165, 2), .retAddr 7) (by decide +kernel) rfl (sp_R_isCog (d := d + 0) h (fun r1 h => ?_))
  show WP (Ct (d + 2)) 197 Post (5, [some (.ref 39), some (.int a1), some (.int a2), none, none], [.int r1], M)
  refine WP.br (.ifCond .eq 12, 3, (17, 0), .null) (by decide +kernel) rfl (fun c2 => ?_) (fun c2 => ?_)
  · replace h := h.1 c2
    refine WP.blk [(.ldc 61, 2, (0, 0), .int (-1000001))] (G := True) (c' := (19, [some (.ref 39), some (.int a1), some (.int a2), none, none], [.int (-1000001)], M)) (by decide +kernel) rfl trivial ?_
    exact WP.ret (.ireturn, 1, (0, 0), .null) (rk := 1) (by decide +kernel) (by decide +kernel) rfl trivial (hΦ _ _ h)
  · replace h := h.2 c2
    refine WP.blk [(.iload_n 2, 1, (0, 0), .null), (.iconst 0, 1, (0, 0), .int 0), (.iconst 5, 1, (0, 0), .int 5)] (G := True) (c' := (11, [some (.ref 39), some (.int a1), some (.int a2), none, none], [.int 5, .int 0, .int a2], M)) (by decide +kernel) rfl trivial ?_
    refine WP.call (.invokestatic 53, 3, (135, 3), .null) (by decide +kernel) rfl (sp_R_in (d := d + 1) h (fun r3 h => ?_))
    show WP (Ct (d + 2)) 197 Post (14, [some (.ref 39), some (.int a1), some (.int a2), none, none], [.int r3], M)
    refine WP.br (.ifCond .ne 6, 3, (20, 0), .null) (by decide +kernel) rfl (fun c4 => ?_) (fun c4 => ?_)
    · replace h := h.2 c4
      refine WP.blk [(.aload_n 0, 1, (0, 0), .null), (.getfield 22, 3, (7, 6), .null), (.bipush 11, 2, (0, 0), .int 11), (.iload_n 1, 1, (0, 0), .null), (.iadd, 1, (0, 0), .null), (.iaload, 1, (0, 0), .null), (.istore_n 3, 1, (0, 0), .null), (.iload_n 2, 1, (0, 0), .null)] (G := vp_in (11 + a1) 35 ∧ True) (c' := (31, [some (.ref 39), some (.int a1), some (.int a2), some (.int (M 44 (Int32.toNatClampNeg (11 + a1)))), none], [.int a2], M)) (by decide +kernel) rfl ⟨h.1, trivial⟩ ?_
      replace h := h.2
      refine WP.br (.ifCond .eq 28, 3, (59, 0), .null) (by decide +kernel) rfl (fun c5 => ?_) (fun c5 => ?_)
      · replace h := h.1 c5
        refine WP.fgt [some (.ref 39), some (.int a1), none, none, none] (by simp [fgt]) ?_
        exact L_R_as_59 hΦ _ _ h
      · replace h := h.2 c5
        refine WP.blk [(.iload_n 2, 1, (0, 0), .null), (.iload_n 3, 1, (0, 0), .null)] (G := True) (c' := (36, [some (.ref 39), some (.int a1), some (.int a2), some (.int (M 44 (Int32.toNatClampNeg (11 + a1)))), none], [.int (M 44 (Int32.toNatClampNeg (11 + a1))), .int a2], M)) (by decide +kernel) rfl trivial ?_
        refine WP.br (.if_icmp .eq 23, 3, (59, 0), .null) (by decide +kernel) rfl (fun c6 => ?_) (fun c6 => ?_)
        · replace h := h.1 c6
          refine WP.fgt [some (.ref 39), some (.int a1), none, none, none] (by simp [fgt]) ?_
          exact L_R_as_59 hΦ _ _ h
        · replace h := h.2 c6
          refine WP.blk [(.iload_n 2, 1, (0, 0), .null), (.iconst 1, 1, (0, 0), .int 1)] (G := True) (c' := (41, [some (.ref 39), some (.int a1), some (.int a2), some (.int (M 44 (Int32.toNatClampNeg (11 + a1)))), none], [.int 1, .int a2], M)) (by decide +kernel) rfl trivial ?_
          refine WP.br (.if_icmp .ne 8, 3, (49, 0), .null) (by decide +kernel) rfl (fun c7 => ?_) (fun c7 => ?_)
          · replace h := h.2 c7
            exact L_R_as_49 hΦ _ _ _ _ h
          · replace h := h.1 (Classical.not_not.mp c7)
            refine WP.blk [(.iload_n 3, 1, (0, 0), .null), (.iconst 3, 1, (0, 0), .int 3)] (G := True) (c' := (46, [some (.ref 39), some (.int a1), some (.int a2), some (.int (M 44 (Int32.toNatClampNeg (11 + a1)))), none], [.int 3, .int (M 44 (Int32.toNatClampNeg (11 + a1)))], M)) (by decide +kernel) rfl trivial ?_
            refine WP.br (.if_icmp .le 13, 3, (59, 0), .null) (by decide +kernel) rfl (fun c8 => ?_) (fun c8 => ?_)
            · replace h := h.1 c8
              refine WP.fgt [some (.ref 39), some (.int a1), none, none, none] (by simp [fgt]) ?_
              exact L_R_as_59 hΦ _ _ h
            · replace h := h.2 c8
              exact L_R_as_49 hΦ _ _ _ _ h
    · replace h := h.1 (Classical.not_not.mp c4)
      refine WP.blk [(.ldc 61, 2, (0, 0), .int (-1000001))] (G := True) (c' := (19, [some (.ref 39), some (.int a1), some (.int a2), none, none], [.int (-1000001)], M)) (by decide +kernel) rfl trivial ?_
      exact WP.ret (.ireturn, 1, (0, 0), .null) (rk := 1) (by decide +kernel) (by decide +kernel) rfl trivial (hΦ _ _ h)
/-- GearRoadModel.leave(I)V -/
def S_R_leave (M : Mm) (a1 : Int32) (Φ : Mm → Prop) : Prop := ((16 ≤ (M 39 22) → Φ M) ∧ (¬ (16 ≤ (M 39 22)) → vp_in (M 39 22) 16 ∧ (∀ M2, M2 = mu M 51 (Int32.toNatClampNeg (M 39 22)) a1 → (∀ M3, M3 = mu M2 39 22 ((M2 39 22) + 1) → Φ M3))))
set_option maxRecDepth 100000 in
set_option maxHeartbeats 4000000 in
theorem sp_R_leave {d : Nat} {Post : Option Value → Mm → Prop} {M : Mm} {a1 : Int32} {Φ : Mm → Prop} (h : S_R_leave M a1 Φ) (hΦ : ∀ M1, Φ M1 → Post none M1) : Ct (d + 1) 200 [.ref 39, .int a1] M Post := by
  refine Ct.go (n := 2) (E := [some (.ref 39), some (.int a1)]) (by decide +kernel) (by simp [Value.category]) rfl ?_
  refine WP.blk [(.aload_n 0, 1, (0, 0), .null), (.getfield 214, 3, (7, 22), .null), (.bipush 16, 2, (0, 0), .int 16)] (G := True) (c' := (6, [some (.ref 39), some (.int a1)], [.int 16, .int (M 39 22)], M)) (by decide +kernel) rfl trivial ?_
  refine WP.br (.if_icmp .ge 23, 3, (29, 0), .null) (by decide +kernel) rfl (fun c1 => ?_) (fun c1 => ?_)
  · replace h := h.1 c1
    exact WP.ret (.return_, 1, (0, 0), .null) (rk := 0) (by decide +kernel) (by decide +kernel) rfl trivial (hΦ _ h)
  · replace h := h.2 c1
    refine WP.blk [(.aload_n 0, 1, (0, 0), .null), (.getfield 45, 3, (7, 21), .null), (.aload_n 0, 1, (0, 0), .null), (.getfield 214, 3, (7, 22), .null), (.iload_n 1, 1, (0, 0), .null), (.iastore, 1, (0, 0), .null)] (G := vp_in (M 39 22) 16 ∧ True) (c' := (19, [some (.ref 39), some (.int a1)], [], (mu M 51 (Int32.toNatClampNeg (M 39 22)) a1))) (by decide +kernel) rfl ⟨h.1, trivial⟩ ?_
    replace h := h.2
    replace h := h (mu M 51 (Int32.toNatClampNeg (M 39 22)) a1) rfl
    generalize (mu M 51 (Int32.toNatClampNeg (M 39 22)) a1) = M2 at h ⊢
    refine WP.blk [(.aload_n 0, 1, (0, 0), .null), (.dup, 1, (0, 0), .null), (.getfield 214, 3, (7, 22), .null), (.iconst 1, 1, (0, 0), .int 1), (.iadd, 1, (0, 0), .null), (.putfield 214, 3, (7, 22), .null)] (G := True) (c' := (29, [some (.ref 39), some (.int a1)], [], (mu M2 39 22 ((M2 39 22) + 1)))) (by decide +kernel) rfl trivial ?_
    replace h := h (mu M2 39 22 ((M2 39 22) + 1)) rfl
    generalize (mu M2 39 22 ((M2 39 22) + 1)) = M3 at h ⊢
    exact WP.ret (.return_, 1, (0, 0), .null) (rk := 0) (by decide +kernel) (by decide +kernel) rfl trivial (hΦ _ h)
/-- GearRoadModel.body10(I)I -/
def S_R_body10 (M : Mm) (a1 : Int32) (Φ : Int32 → Mm → Prop) : Prop := S_R_leave M 10 (fun M1 => vp_in (17 + a1) 35 ∧ Φ (M1 44 (Int32.toNatClampNeg (17 + a1))) M1)
set_option maxRecDepth 100000 in
set_option maxHeartbeats 4000000 in
theorem sp_R_body10 {d : Nat} {Post : Option Value → Mm → Prop} {M : Mm} {a1 : Int32} {Φ : Int32 → Mm → Prop} (h : S_R_body10 M a1 Φ) (hΦ : ∀ r M1, Φ r M1 → Post (some (.int r)) M1) : Ct (d + 2) 202 [.ref 39, .int a1] M Post := by
  refine Ct.go (n := 2) (E := [some (.ref 39), some (.int a1)]) (by decide +kernel) (by simp [Value.category]) rfl ?_
  refine WP.blk [(.aload_n 0, 1, (0, 0), .null), (.bipush 10, 2, (0, 0), .int 10)] (G := True) (c' := (3, [some (.ref 39), some (.int a1)], [.int 10, .ref 39], M)) (by decide +kernel) rfl trivial ?_
  refine WP.call (.invokevirtual 217, 3, (200, 2), .retAddr 7) (by decide +kernel) rfl (sp_R_leave (d := d + 0) h (fun M1 h => ?_))
  show WP (Ct (d + 1)) 202 Post (6, [some (.ref 39), some (.int a1)], [], M1)
  refine WP.blk [(.aload_n 0, 1, (0, 0), .null), (.getfield 22, 3, (7, 6), .null), (.bipush 17, 2, (0, 0), .int 17), (.iload_n 1, 1, (0, 0), .null), (.iadd, 1, (0, 0), .null), (.iaload, 1, (0, 0), .null)] (G := vp_in (17 + a1) 35 ∧ True) (c' := (15, [some (.ref 39), some (.int a1)], [.int (M1 44 (Int32.toNatClampNeg (17 + a1)))], M1)) (by decide +kernel) rfl ⟨h.1, trivial⟩ ?_
  replace h := h.2
  exact WP.ret (.ireturn, 1, (0, 0), .null) (rk := 1) (by decide +kernel) (by decide +kernel) rfl trivial (hΦ _ _ h)
/-- GearRoadModel.body20(I)I -/
def S_R_body20 (M : Mm) (a1 : Int32) (Φ : Int32 → Mm → Prop) : Prop := S_R_leave M 20 (fun M1 => Φ a1 M1)
set_option maxRecDepth 100000 in
set_option maxHeartbeats 4000000 in
theorem sp_R_body20 {d : Nat} {Post : Option Value → Mm → Prop} {M : Mm} {a1 : Int32} {Φ : Int32 → Mm → Prop} (h : S_R_body20 M a1 Φ) (hΦ : ∀ r M1, Φ r M1 → Post (some (.int r)) M1) : Ct (d + 2) 205 [.ref 39, .int a1] M Post := by
  refine Ct.go (n := 2) (E := [some (.ref 39), some (.int a1)]) (by decide +kernel) (by simp [Value.category]) rfl ?_
  refine WP.blk [(.aload_n 0, 1, (0, 0), .null), (.bipush 20, 2, (0, 0), .int 20)] (G := True) (c' := (3, [some (.ref 39), some (.int a1)], [.int 20, .ref 39], M)) (by decide +kernel) rfl trivial ?_
  refine WP.call (.invokevirtual 217, 3, (200, 2), .retAddr 7) (by decide +kernel) rfl (sp_R_leave (d := d + 0) h (fun M1 h => ?_))
  show WP (Ct (d + 1)) 205 Post (6, [some (.ref 39), some (.int a1)], [], M1)
  refine WP.blk [(.iload_n 1, 1, (0, 0), .null)] (G := True) (c' := (7, [some (.ref 39), some (.int a1)], [.int a1], M1)) (by decide +kernel) rfl trivial ?_
  exact WP.ret (.ireturn, 1, (0, 0), .null) (rk := 1) (by decide +kernel) (by decide +kernel) rfl trivial (hΦ _ _ h)
/-- GearRoadModel.body21(I)I -/
def S_R_body21 (M : Mm) (a1 : Int32) (Φ : Int32 → Mm → Prop) : Prop := S_R_leave M 21 (fun M1 => S_R_body20 M1 a1 (fun r2 M2 => vp_in (29 + a1) 35 ∧ Φ (r2 + (M2 44 (Int32.toNatClampNeg (29 + a1)))) M2))
set_option maxRecDepth 100000 in
set_option maxHeartbeats 4000000 in
theorem sp_R_body21 {d : Nat} {Post : Option Value → Mm → Prop} {M : Mm} {a1 : Int32} {Φ : Int32 → Mm → Prop} (h : S_R_body21 M a1 Φ) (hΦ : ∀ r M1, Φ r M1 → Post (some (.int r)) M1) : Ct (d + 3) 204 [.ref 39, .int a1] M Post := by
  refine Ct.go (n := 2) (E := [some (.ref 39), some (.int a1)]) (by decide +kernel) (by simp [Value.category]) rfl ?_
  refine WP.blk [(.aload_n 0, 1, (0, 0), .null), (.bipush 21, 2, (0, 0), .int 21)] (G := True) (c' := (3, [some (.ref 39), some (.int a1)], [.int 21, .ref 39], M)) (by decide +kernel) rfl trivial ?_
  refine WP.call (.invokevirtual 217, 3, (200, 2), .retAddr 7) (by decide +kernel) rfl (sp_R_leave (d := d + 1) h (fun M1 h => ?_))
  show WP (Ct (d + 2)) 204 Post (6, [some (.ref 39), some (.int a1)], [], M1)
  refine WP.blk [(.aload_n 0, 1, (0, 0), .null), (.iload_n 1, 1, (0, 0), .null)] (G := True) (c' := (8, [some (.ref 39), some (.int a1)], [.int a1, .ref 39], M1)) (by decide +kernel) rfl trivial ?_
  refine WP.call (.invokevirtual 220, 3, (205, 2), .retAddr 7) (by decide +kernel) rfl (sp_R_body20 (d := d + 0) h (fun r2 M2 h => ?_))
  show WP (Ct (d + 2)) 204 Post (11, [some (.ref 39), some (.int a1)], [.int r2], M2)
  refine WP.blk [(.aload_n 0, 1, (0, 0), .null), (.getfield 22, 3, (7, 6), .null), (.bipush 29, 2, (0, 0), .int 29), (.iload_n 1, 1, (0, 0), .null), (.iadd, 1, (0, 0), .null), (.iaload, 1, (0, 0), .null), (.iadd, 1, (0, 0), .null)] (G := vp_in (29 + a1) 35 ∧ True) (c' := (21, [some (.ref 39), some (.int a1)], [.int (r2 + (M2 44 (Int32.toNatClampNeg (29 + a1))))], M2)) (by decide +kernel) rfl ⟨h.1, trivial⟩ ?_
  replace h := h.2
  exact WP.ret (.ireturn, 1, (0, 0), .null) (rk := 1) (by decide +kernel) (by decide +kernel) rfl trivial (hΦ _ _ h)
/-- GearRoadModel.markOfPlain(I)I -/
def S_R_markOfPlain (M : Mm) (a1 : Int32) (Φ : Int32 → Mm → Prop) : Prop := vp_in (11 + a1) 35 ∧ (((M 44 (Int32.toNatClampNeg (11 + a1))) = 2 → S_R_leave M 24 (fun M2 => S_R_body21 M2 a1 (fun r3 M3 => Φ (2 * r3) M3))) ∧ (¬ ((M 44 (Int32.toNatClampNeg (11 + a1))) = 2) → (((M 44 (Int32.toNatClampNeg (11 + a1))) = 3 → S_R_leave M 22 (fun M5 => S_R_body21 M5 a1 (fun r6 M6 => Φ (r6 - 1000) M6))) ∧ (¬ ((M 44 (Int32.toNatClampNeg (11 + a1))) = 3) → S_R_body21 M a1 (fun r7 M7 => Φ r7 M7)))))
set_option maxRecDepth 100000 in
set_option maxHeartbeats 4000000 in
theorem sp_R_markOfPlain {d : Nat} {Post : Option Value → Mm → Prop} {M : Mm} {a1 : Int32} {Φ : Int32 → Mm → Prop} (h : S_R_markOfPlain M a1 Φ) (hΦ : ∀ r M1, Φ r M1 → Post (some (.int r)) M1) : Ct (d + 4) 203 [.ref 39, .int a1] M Post := by
  refine Ct.go (n := 2) (E := [some (.ref 39), some (.int a1)]) (by decide +kernel) (by simp [Value.category]) rfl ?_
  refine WP.blk [(.aload_n 0, 1, (0, 0), .null), (.getfield 22, 3, (7, 6), .null), (.bipush 11, 2, (0, 0), .int 11), (.iload_n 1, 1, (0, 0), .null), (.iadd, 1, (0, 0), .null), (.iaload, 1, (0, 0), .null)] (G := vp_in (11 + a1) 35 ∧ True) (c' := (9, [some (.ref 39), some (.int a1)], [.int (M 44 (Int32.toNatClampNeg (11 + a1)))], M)) (by decide +kernel) rfl ⟨h.1, trivial⟩ ?_
  replace h := h.2
  by_cases e1 : (M 44 (Int32.toNatClampNeg (11 + a1))) = 2
  · refine WP.sw (.lookupswitch 57 #[(2, 27), (3, 41)], 27, (0, 0), .null) 36 (by decide +kernel) (Or.inr ⟨_, _, rfl⟩) (by rw [e1]; decide) ?_
    replace h := h.1 e1
    refine WP.blk [(.aload_n 0, 1, (0, 0), .null), (.bipush 24, 2, (0, 0), .int 24)] (G := True) (c' := (39, [some (.ref 39), some (.int a1)], [.int 24, .ref 39], M)) (by decide +kernel) rfl trivial ?_
    refine WP.call (.invokevirtual 217, 3, (200, 2), .retAddr 7) (by decide +kernel) rfl (sp_R_leave (d := d + 2) h (fun M2 h => ?_))
    show WP (Ct (d + 3)) 203 Post (42, [some (.ref 39), some (.int a1)], [], M2)
    refine WP.blk [(.iconst 2, 1, (0, 0), .int 2), (.aload_n 0, 1, (0, 0), .null), (.iload_n 1, 1, (0, 0), .null)] (G := True) (c' := (45, [some (.ref 39), some (.int a1)], [.int a1, .ref 39, .int 2], M2)) (by decide +kernel) rfl trivial ?_
    refine WP.call (.invokevirtual 223, 3, (204, 2), .retAddr 7) (by decide +kernel) rfl (sp_R_body21 (d := d + 0) h (fun r3 M3 h => ?_))
    show WP (Ct (d + 3)) 203 Post (48, [some (.ref 39), some (.int a1)], [.int r3, .int 2], M3)
    refine WP.blk [(.imul, 1, (0, 0), .null)] (G := True) (c' := (49, [some (.ref 39), some (.int a1)], [.int (2 * r3)], M3)) (by decide +kernel) rfl trivial ?_
    exact WP.ret (.ireturn, 1, (0, 0), .null) (rk := 1) (by decide +kernel) (by decide +kernel) rfl trivial (hΦ _ _ h)
  replace h := h.2 e1
  by_cases e4 : (M 44 (Int32.toNatClampNeg (11 + a1))) = 3
  · refine WP.sw (.lookupswitch 57 #[(2, 27), (3, 41)], 27, (0, 0), .null) 50 (by decide +kernel) (Or.inr ⟨_, _, rfl⟩) (by rw [e4]; decide) ?_
    replace h := h.1 e4
    refine WP.blk [(.aload_n 0, 1, (0, 0), .null), (.bipush 22, 2, (0, 0), .int 22)] (G := True) (c' := (53, [some (.ref 39), some (.int a1)], [.int 22, .ref 39], M)) (by decide +kernel) rfl trivial ?_
    refine WP.call (.invokevirtual 217, 3, (200, 2), .retAddr 7) (by decide +kernel) rfl (sp_R_leave (d := d + 2) h (fun M5 h => ?_))
    show WP (Ct (d + 3)) 203 Post (56, [some (.ref 39), some (.int a1)], [], M5)
    refine WP.blk [(.aload_n 0, 1, (0, 0), .null), (.iload_n 1, 1, (0, 0), .null)] (G := True) (c' := (58, [some (.ref 39), some (.int a1)], [.int a1, .ref 39], M5)) (by decide +kernel) rfl trivial ?_
    refine WP.call (.invokevirtual 223, 3, (204, 2), .retAddr 7) (by decide +kernel) rfl (sp_R_body21 (d := d + 0) h (fun r6 M6 h => ?_))
    show WP (Ct (d + 3)) 203 Post (61, [some (.ref 39), some (.int a1)], [.int r6], M6)
    refine WP.blk [(.sipush 1000, 3, (0, 0), .int 1000), (.isub, 1, (0, 0), .null)] (G := True) (c' := (65, [some (.ref 39), some (.int a1)], [.int (r6 - 1000)], M6)) (by decide +kernel) rfl trivial ?_
    exact WP.ret (.ireturn, 1, (0, 0), .null) (rk := 1) (by decide +kernel) (by decide +kernel) rfl trivial (hΦ _ _ h)
  replace h := h.2 e4
  refine WP.sw (.lookupswitch 57 #[(2, 27), (3, 41)], 27, (0, 0), .null) 66 (by decide +kernel) (Or.inr ⟨_, _, rfl⟩) (by simp only [swOff]; rw [lv_osw e1 (by decide), lv_osw e4 (by decide)]; rfl) ?_
  refine WP.blk [(.aload_n 0, 1, (0, 0), .null), (.iload_n 1, 1, (0, 0), .null)] (G := True) (c' := (68, [some (.ref 39), some (.int a1)], [.int a1, .ref 39], M)) (by decide +kernel) rfl trivial ?_
  refine WP.call (.invokevirtual 223, 3, (204, 2), .retAddr 7) (by decide +kernel) rfl (sp_R_body21 (d := d + 0) h (fun r7 M7 h => ?_))
  show WP (Ct (d + 3)) 203 Post (71, [some (.ref 39), some (.int a1)], [.int r7], M7)
  exact WP.ret (.ireturn, 1, (0, 0), .null) (rk := 1) (by decide +kernel) (by decide +kernel) rfl trivial (hΦ _ _ h)
/-- GearRoadModel.body11(I)I -/
def S_R_body11 (M : Mm) (a1 : Int32) (Φ : Int32 → Mm → Prop) : Prop := S_R_leave M 11 (fun M1 => S_R_body10 M1 a1 (fun r2 M2 => S_R_markOfPlain M2 a1 (fun r3 M3 => Φ (r2 + r3) M3)))
set_option maxRecDepth 100000 in
set_option maxHeartbeats 4000000 in
theorem sp_R_body11 {d : Nat} {Post : Option Value → Mm → Prop} {M : Mm} {a1 : Int32} {Φ : Int32 → Mm → Prop} (h : S_R_body11 M a1 Φ) (hΦ : ∀ r M1, Φ r M1 → Post (some (.int r)) M1) : Ct (d + 5) 201 [.ref 39, .int a1] M Post := by
  refine Ct.go (n := 3) (E := [some (.ref 39), some (.int a1), none]) (by decide +kernel) (by simp [Value.category]) rfl ?_
  refine WP.blk [(.aload_n 0, 1, (0, 0), .null), (.bipush 11, 2, (0, 0), .int 11)] (G := True) (c' := (3, [some (.ref 39), some (.int a1), none], [.int 11, .ref 39], M)) (by decide +kernel) rfl trivial ?_
  refine WP.call (.invokevirtual 217, 3, (200, 2), .retAddr 7) (by decide +kernel) rfl (sp_R_leave (d := d + 3) h (fun M1 h => ?_))
  show WP (Ct (d + 4)) 201 Post (6, [some (.ref 39), some (.int a1), none], [], M1)
  refine WP.blk [(.aload_n 0, 1, (0, 0), .null), (.iload_n 1, 1, (0, 0), .null)] (G := True) (c' := (8, [some (.ref 39), some (.int a1), none], [.int a1, .ref 39], M1)) (by decide +kernel) rfl trivial ?_
  refine WP.call (.invokevirtual 226, 3, (202, 2), .retAddr 7) (by decide +kernel) rfl (sp_R_body10 (d := d + 2) h (fun r2 M2 h => ?_))
  show WP (Ct (d + 4)) 201 Post (11, [some (.ref 39), some (.int a1), none], [.int r2], M2)
  refine WP.blk [(.istore_n 2, 1, (0, 0), .null), (.iload_n 2, 1, (0, 0), .null), (.aload_n 0, 1, (0, 0), .null), (.iload_n 1, 1, (0, 0), .null)] (G := True) (c' := (15, [some (.ref 39), some (.int a1), some (.int r2)], [.int a1, .ref 39, .int r2], M2)) (by decide +kernel) rfl trivial ?_
  refine WP.call (.invokevirtual 229, 3, (203, 2), .retAddr 7) (by decide +kernel) rfl (sp_R_markOfPlain (d := d + 0) h (fun r3 M3 h => ?_))
  show WP (Ct (d + 4)) 201 Post (18, [some (.ref 39), some (.int a1), some (.int r2)], [.int r3, .int r2], M3)
  refine WP.blk [(.iadd, 1, (0, 0), .null)] (G := True) (c' := (19, [some (.ref 39), some (.int a1), some (.int r2)], [.int (r2 + r3)], M3)) (by decide +kernel) rfl trivial ?_
  exact WP.ret (.ireturn, 1, (0, 0), .null) (rk := 1) (by decide +kernel) (by decide +kernel) rfl trivial (hΦ _ _ h)
/-- GearRoadModel.body13(I)I -/
def S_R_body13 (M : Mm) (a1 : Int32) (Φ : Int32 → Mm → Prop) : Prop := S_R_leave M 13 (fun M1 => S_R_body10 M1 a1 (fun r2 M2 => Φ (r2 - 100) M2))
set_option maxRecDepth 100000 in
set_option maxHeartbeats 4000000 in
theorem sp_R_body13 {d : Nat} {Post : Option Value → Mm → Prop} {M : Mm} {a1 : Int32} {Φ : Int32 → Mm → Prop} (h : S_R_body13 M a1 Φ) (hΦ : ∀ r M1, Φ r M1 → Post (some (.int r)) M1) : Ct (d + 3) 206 [.ref 39, .int a1] M Post := by
  refine Ct.go (n := 2) (E := [some (.ref 39), some (.int a1)]) (by decide +kernel) (by simp [Value.category]) rfl ?_
  refine WP.blk [(.aload_n 0, 1, (0, 0), .null), (.bipush 13, 2, (0, 0), .int 13)] (G := True) (c' := (3, [some (.ref 39), some (.int a1)], [.int 13, .ref 39], M)) (by decide +kernel) rfl trivial ?_
  refine WP.call (.invokevirtual 217, 3, (200, 2), .retAddr 7) (by decide +kernel) rfl (sp_R_leave (d := d + 1) h (fun M1 h => ?_))
  show WP (Ct (d + 2)) 206 Post (6, [some (.ref 39), some (.int a1)], [], M1)
  refine WP.blk [(.aload_n 0, 1, (0, 0), .null), (.iload_n 1, 1, (0, 0), .null)] (G := True) (c' := (8, [some (.ref 39), some (.int a1)], [.int a1, .ref 39], M1)) (by decide +kernel) rfl trivial ?_
  refine WP.call (.invokevirtual 226, 3, (202, 2), .retAddr 7) (by decide +kernel) rfl (sp_R_body10 (d := d + 0) h (fun r2 M2 h => ?_))
  show WP (Ct (d + 2)) 206 Post (11, [some (.ref 39), some (.int a1)], [.int r2], M2)
  refine WP.blk [(.bipush 100, 2, (0, 0), .int 100), (.isub, 1, (0, 0), .null)] (G := True) (c' := (14, [some (.ref 39), some (.int a1)], [.int (r2 - 100)], M2)) (by decide +kernel) rfl trivial ?_
  exact WP.ret (.ireturn, 1, (0, 0), .null) (rk := 1) (by decide +kernel) (by decide +kernel) rfl trivial (hΦ _ _ h)
/-- GearRoadModel.sizeOf(I)I -/
def S_R_sizeOf (M : Mm) (a1 : Int32) (Φ : Int32 → Mm → Prop) : Prop := vp_in (11 + a1) 35 ∧ (((M 44 (Int32.toNatClampNeg (11 + a1))) = 2 → S_R_leave M 12 (fun M2 => S_R_body11 M2 a1 (fun r3 M3 => Φ (-r3) M3))) ∧ (¬ ((M 44 (Int32.toNatClampNeg (11 + a1))) = 2) → (((M 44 (Int32.toNatClampNeg (11 + a1))) = 3 → S_R_body11 M a1 (fun r5 M5 => Φ r5 M5)) ∧ (¬ ((M 44 (Int32.toNatClampNeg (11 + a1))) = 3) → (((M 44 (Int32.toNatClampNeg (11 + a1))) = 4 → S_R_body13 M a1 (fun r7 M7 => Φ r7 M7)) ∧ (¬ ((M 44 (Int32.toNatClampNeg (11 + a1))) = 4) → (((M 44 (Int32.toNatClampNeg (11 + a1))) = 5 → S_R_leave M 14 (fun M9 => S_R_body13 M9 a1 (fun r10 M10 => Φ (2 * r10) M10))) ∧ (¬ ((M 44 (Int32.toNatClampNeg (11 + a1))) = 5) → S_R_body11 M a1 (fun r11 M11 => Φ r11 M11)))))))))
set_option maxRecDepth 100000 in
set_option maxHeartbeats 4000000 in
theorem sp_R_sizeOf {d : Nat} {Post : Option Value → Mm → Prop} {M : Mm} {a1 : Int32} {Φ : Int32 → Mm → Prop} (h : S_R_sizeOf M a1 Φ) (hΦ : ∀ r M1, Φ r M1 → Post (some (.int r)) M1) : Ct (d + 6) 199 [.ref 39, .int a1] M Post := by
  refine Ct.go (n := 2) (E := [some (.ref 39), some (.int a1)]) (by decide +kernel) (by simp [Value.category]) rfl ?_
  refine WP.blk [(.aload_n 0, 1, (0, 0), .null), (.getfield 22, 3, (7, 6), .null), (.bipush 11, 2, (0, 0), .int 11), (.iload_n 1, 1, (0, 0), .null), (.iadd, 1, (0, 0), .null), (.iaload, 1, (0, 0), .null)] (G := vp_in (11 + a1) 35 ∧ True) (c' := (9, [some (.ref 39), some (.int a1)], [.int (M 44 (Int32.toNatClampNeg (11 + a1)))], M)) (by decide +kernel) rfl ⟨h.1, trivial⟩ ?_
  replace h := h.2
  by_cases e1 : (M 44 (Int32.toNatClampNeg (11 + a1))) = 2
  · refine WP.sw (.tableswitch 64 2 5 #[31, 64, 44, 50], 31, (0, 0), .null) 40 (by decide +kernel) (Or.inl ⟨_, _, _, _, rfl⟩) (by rw [e1]; decide) ?_
    replace h := h.1 e1
    refine WP.blk [(.aload_n 0, 1, (0, 0), .null), (.bipush 12, 2, (0, 0), .int 12)] (G := True) (c' := (43, [some (.ref 39), some (.int a1)], [.int 12, .ref 39], M)) (by decide +kernel) rfl trivial ?_
    refine WP.call (.invokevirtual 217, 3, (200, 2), .retAddr 7) (by decide +kernel) rfl (sp_R_leave (d := d + 4) h (fun M2 h => ?_))
    show WP (Ct (d + 5)) 199 Post (46, [some (.ref 39), some (.int a1)], [], M2)
    refine WP.blk [(.aload_n 0, 1, (0, 0), .null), (.iload_n 1, 1, (0, 0), .null)] (G := True) (c' := (48, [some (.ref 39), some (.int a1)], [.int a1, .ref 39], M2)) (by decide +kernel) rfl trivial ?_
    refine WP.call (.invokevirtual 232, 3, (201, 2), .retAddr 7) (by decide +kernel) rfl (sp_R_body11 (d := d + 0) h (fun r3 M3 h => ?_))
    show WP (Ct (d + 5)) 199 Post (51, [some (.ref 39), some (.int a1)], [.int r3], M3)
    refine WP.blk [(.ineg, 1, (0, 0), .null)] (G := True) (c' := (52, [some (.ref 39), some (.int a1)], [.int (-r3)], M3)) (by decide +kernel) rfl trivial ?_
    exact WP.ret (.ireturn, 1, (0, 0), .null) (rk := 1) (by decide +kernel) (by decide +kernel) rfl trivial (hΦ _ _ h)
  replace h := h.2 e1
  by_cases e4 : (M 44 (Int32.toNatClampNeg (11 + a1))) = 3
  · refine WP.sw (.tableswitch 64 2 5 #[31, 64, 44, 50], 31, (0, 0), .null) 73 (by decide +kernel) (Or.inl ⟨_, _, _, _, rfl⟩) (by rw [e4]; decide) ?_
    replace h := h.1 e4
    refine WP.blk [(.aload_n 0, 1, (0, 0), .null), (.iload_n 1, 1, (0, 0), .null)] (G := True) (c' := (75, [some (.ref 39), some (.int a1)], [.int a1, .ref 39], M)) (by decide +kernel) rfl trivial ?_
    refine WP.call (.invokevirtual 232, 3, (201, 2), .retAddr 7) (by decide +kernel) rfl (sp_R_body11 (d := d + 0) h (fun r5 M5 h => ?_))
    show WP (Ct (d + 5)) 199 Post (78, [some (.ref 39), some (.int a1)], [.int r5], M5)
    exact WP.ret (.ireturn, 1, (0, 0), .null) (rk := 1) (by decide +kernel) (by decide +kernel) rfl trivial (hΦ _ _ h)
  replace h := h.2 e4
  by_cases e6 : (M 44 (Int32.toNatClampNeg (11 + a1))) = 4
  · refine WP.sw (.tableswitch 64 2 5 #[31, 64, 44, 50], 31, (0, 0), .null) 53 (by decide +kernel) (Or.inl ⟨_, _, _, _, rfl⟩) (by rw [e6]; decide) ?_
    replace h := h.1 e6
    refine WP.blk [(.aload_n 0, 1, (0, 0), .null), (.iload_n 1, 1, (0, 0), .null)] (G := True) (c' := (55, [some (.ref 39), some (.int a1)], [.int a1, .ref 39], M)) (by decide +kernel) rfl trivial ?_
    refine WP.call (.invokevirtual 235, 3, (206, 2), .retAddr 7) (by decide +kernel) rfl (sp_R_body13 (d := d + 2) h (fun r7 M7 h => ?_))
    show WP (Ct (d + 5)) 199 Post (58, [some (.ref 39), some (.int a1)], [.int r7], M7)
    exact WP.ret (.ireturn, 1, (0, 0), .null) (rk := 1) (by decide +kernel) (by decide +kernel) rfl trivial (hΦ _ _ h)
  replace h := h.2 e6
  by_cases e8 : (M 44 (Int32.toNatClampNeg (11 + a1))) = 5
  · refine WP.sw (.tableswitch 64 2 5 #[31, 64, 44, 50], 31, (0, 0), .null) 59 (by decide +kernel) (Or.inl ⟨_, _, _, _, rfl⟩) (by rw [e8]; decide) ?_
    replace h := h.1 e8
    refine WP.blk [(.aload_n 0, 1, (0, 0), .null), (.bipush 14, 2, (0, 0), .int 14)] (G := True) (c' := (62, [some (.ref 39), some (.int a1)], [.int 14, .ref 39], M)) (by decide +kernel) rfl trivial ?_
    refine WP.call (.invokevirtual 217, 3, (200, 2), .retAddr 7) (by decide +kernel) rfl (sp_R_leave (d := d + 4) h (fun M9 h => ?_))
    show WP (Ct (d + 5)) 199 Post (65, [some (.ref 39), some (.int a1)], [], M9)
    refine WP.blk [(.iconst 2, 1, (0, 0), .int 2), (.aload_n 0, 1, (0, 0), .null), (.iload_n 1, 1, (0, 0), .null)] (G := True) (c' := (68, [some (.ref 39), some (.int a1)], [.int a1, .ref 39, .int 2], M9)) (by decide +kernel) rfl trivial ?_
    refine WP.call (.invokevirtual 235, 3, (206, 2), .retAddr 7) (by decide +kernel) rfl (sp_R_body13 (d := d + 2) h (fun r10 M10 h => ?_))
    show WP (Ct (d + 5)) 199 Post (71, [some (.ref 39), some (.int a1)], [.int r10, .int 2], M10)
    refine WP.blk [(.imul, 1, (0, 0), .null)] (G := True) (c' := (72, [some (.ref 39), some (.int a1)], [.int (2 * r10)], M10)) (by decide +kernel) rfl trivial ?_
    exact WP.ret (.ireturn, 1, (0, 0), .null) (rk := 1) (by decide +kernel) (by decide +kernel) rfl trivial (hΦ _ _ h)
  replace h := h.2 e8
  refine WP.sw (.tableswitch 64 2 5 #[31, 64, 44, 50], 31, (0, 0), .null) 73 (by decide +kernel) (Or.inl ⟨_, _, _, _, rfl⟩) (by rw [sw_out (by have := ne_toInt e1; rw [show (2 : Int32).toInt = 2 from by decide] at this; have := ne_toInt e4; rw [show (3 : Int32).toInt = 3 from by decide] at this; have := ne_toInt e6; rw [show (4 : Int32).toInt = 4 from by decide] at this; have := ne_toInt e8; rw [show (5 : Int32).toInt = 5 from by decide] at this; omega)]; rfl) ?_
  refine WP.blk [(.aload_n 0, 1, (0, 0), .null), (.iload_n 1, 1, (0, 0), .null)] (G := True) (c' := (75, [some (.ref 39), some (.int a1)], [.int a1, .ref 39], M)) (by decide +kernel) rfl trivial ?_
  refine WP.call (.invokevirtual 232, 3, (201, 2), .retAddr 7) (by decide +kernel) rfl (sp_R_body11 (d := d + 0) h (fun r11 M11 h => ?_))
  show WP (Ct (d + 5)) 199 Post (78, [some (.ref 39), some (.int a1)], [.int r11], M11)
  exact WP.ret (.ireturn, 1, (0, 0), .null) (rk := 1) (by decide +kernel) (by decide +kernel) rfl trivial (hΦ _ _ h)
/-- GearRoadModel.markOf(I)I -/
def S_R_markOf (M : Mm) (a1 : Int32) (Φ : Int32 → Mm → Prop) : Prop := vp_in (11 + a1) 35 ∧ ((4 ≤ (M 44 (Int32.toNatClampNeg (11 + a1))) → S_R_leave M 23 (fun M2 => S_R_body20 M2 a1 (fun r3 M3 => S_R_sizeOf M3 a1 (fun r4 M4 => Φ (r3 - r4) M4)))) ∧ (¬ (4 ≤ (M 44 (Int32.toNatClampNeg (11 + a1)))) → S_R_markOfPlain M a1 (fun r5 M5 => Φ r5 M5)))
set_option maxRecDepth 100000 in
set_option maxHeartbeats 4000000 in
theorem sp_R_markOf {d : Nat} {Post : Option Value → Mm → Prop} {M : Mm} {a1 : Int32} {Φ : Int32 → Mm → Prop} (h : S_R_markOf M a1 Φ) (hΦ : ∀ r M1, Φ r M1 → Post (some (.int r)) M1) : Ct (d + 7) 207 [.ref 39, .int a1] M Post := by
  refine Ct.go (n := 3) (E := [some (.ref 39), some (.int a1), none]) (by decide +kernel) (by simp [Value.category]) rfl ?_
  refine WP.blk [(.aload_n 0, 1, (0, 0), .null), (.getfield 22, 3, (7, 6), .null), (.bipush 11, 2, (0, 0), .int 11), (.iload_n 1, 1, (0, 0), .null), (.iadd, 1, (0, 0), .null), (.iaload, 1, (0, 0), .null), (.iconst 4, 1, (0, 0), .int 4)] (G := vp_in (11 + a1) 35 ∧ True) (c' := (10, [some (.ref 39), some (.int a1), none], [.int 4, .int (M 44 (Int32.toNatClampNeg (11 + a1)))], M)) (by decide +kernel) rfl ⟨h.1, trivial⟩ ?_
  replace h := h.2
  refine WP.br (.if_icmp .ge 9, 3, (19, 0), .null) (by decide +kernel) rfl (fun c1 => ?_) (fun c1 => ?_)
  · replace h := h.1 c1
    refine WP.blk [(.aload_n 0, 1, (0, 0), .null), (.bipush 23, 2, (0, 0), .int 23)] (G := True) (c' := (22, [some (.ref 39), some (.int a1), none], [.int 23, .ref 39], M)) (by decide +kernel) rfl trivial ?_
    refine WP.call (.invokevirtual 217, 3, (200, 2), .retAddr 7) (by decide +kernel) rfl (sp_R_leave (d := d + 5) h (fun M2 h => ?_))
    show WP (Ct (d + 6)) 207 Post (25, [some (.ref 39), some (.int a1), none], [], M2)
    refine WP.blk [(.aload_n 0, 1, (0, 0), .null), (.iload_n 1, 1, (0, 0), .null)] (G := True) (c' := (27, [some (.ref 39), some (.int a1), none], [.int a1, .ref 39], M2)) (by decide +kernel) rfl trivial ?_
    refine WP.call (.invokevirtual 220, 3, (205, 2), .retAddr 7) (by decide +kernel) rfl (sp_R_body20 (d := d + 4) h (fun r3 M3 h => ?_))
    show WP (Ct (d + 6)) 207 Post (30, [some (.ref 39), some (.int a1), none], [.int r3], M3)
    refine WP.blk [(.istore_n 2, 1, (0, 0), .null), (.iload_n 2, 1, (0, 0), .null), (.aload_n 0, 1, (0, 0), .null), (.iload_n 1, 1, (0, 0), .null)] (G := True) (c' := (34, [some (.ref 39), some (.int a1), some (.int r3)], [.int a1, .ref 39, .int r3], M3)) (by decide +kernel) rfl trivial ?_
    refine WP.call (.invokevirtual 238, 3, (199, 2), .retAddr 7) (by decide +kernel) rfl (sp_R_sizeOf (d := d + 0) h (fun r4 M4 h => ?_))
    show WP (Ct (d + 6)) 207 Post (37, [some (.ref 39), some (.int a1), some (.int r3)], [.int r4, .int r3], M4)
    refine WP.blk [(.isub, 1, (0, 0), .null)] (G := True) (c' := (38, [some (.ref 39), some (.int a1), some (.int r3)], [.int (r3 - r4)], M4)) (by decide +kernel) rfl trivial ?_
    exact WP.ret (.ireturn, 1, (0, 0), .null) (rk := 1) (by decide +kernel) (by decide +kernel) rfl trivial (hΦ _ _ h)
  · replace h := h.2 c1
    refine WP.blk [(.aload_n 0, 1, (0, 0), .null), (.iload_n 1, 1, (0, 0), .null)] (G := True) (c' := (15, [some (.ref 39), some (.int a1), none], [.int a1, .ref 39], M)) (by decide +kernel) rfl trivial ?_
    refine WP.call (.invokevirtual 229, 3, (203, 2), .retAddr 7) (by decide +kernel) rfl (sp_R_markOfPlain (d := d + 2) h (fun r5 M5 h => ?_))
    show WP (Ct (d + 6)) 207 Post (18, [some (.ref 39), some (.int a1), none], [.int r5], M5)
    exact WP.ret (.ireturn, 1, (0, 0), .null) (rk := 1) (by decide +kernel) (by decide +kernel) rfl trivial (hΦ _ _ h)
/-- GearRoadModel.ask(II)I -/
def S_R_ask (M : Mm) (a1 : Int32) (a2 : Int32) (Φ : Int32 → Mm → Prop) : Prop := S_R_isCog M a1 (fun r1 => ((r1 = 0 → Φ (-1000001) M) ∧ (¬ (r1 = 0) → S_R_in M a2 0 1 (fun r3 => ((r3 = 0 → Φ (-1000001) M) ∧ (¬ (r3 = 0) → (∀ M5, M5 = mu M 39 22 0 → ((a2 = 0 → S_R_sizeOf M5 a1 (fun r8 M8 => Φ r8 M8)) ∧ (¬ (a2 = 0) → S_R_markOf M5 a1 (fun r7 M7 => Φ r7 M7))))))))))
set_option maxRecDepth 100000 in
set_option maxHeartbeats 4000000 in
theorem sp_R_ask {d : Nat} {Post : Option Value → Mm → Prop} {M : Mm} {a1 : Int32} {a2 : Int32} {Φ : Int32 → Mm → Prop} (h : S_R_ask M a1 a2 Φ) (hΦ : ∀ r M1, Φ r M1 → Post (some (.int r)) M1) : Ct (d + 8) 198 [.ref 39, .int a1, .int a2] M Post := by
  refine Ct.go (n := 3) (E := [some (.ref 39), some (.int a1), some (.int a2)]) (by decide +kernel) (by simp [Value.category]) rfl ?_
  refine WP.blk [(.aload_n 0, 1, (0, 0), .null), (.iload_n 1, 1, (0, 0), .null)] (G := True) (c' := (2, [some (.ref 39), some (.int a1), some (.int a2)], [.int a1, .ref 39], M)) (by decide +kernel) rfl trivial ?_
  refine WP.call (.invokevirtual 166, 3, (165, 2), .retAddr 7) (by decide +kernel) rfl (sp_R_isCog (d := d + 5) h (fun r1 h => ?_))
  show WP (Ct (d + 7)) 198 Post (5, [some (.ref 39), some (.int a1), some (.int a2)], [.int r1], M)
  refine WP.br (.ifCond .eq 12, 3, (17, 0), .null) (by decide +kernel) rfl (fun c2 => ?_) (fun c2 => ?_)
  · replace h := h.1 c2
    refine WP.blk [(.ldc 61, 2, (0, 0), .int (-1000001))] (G := True) (c' := (19, [some (.ref 39), some (.int a1), some (.int a2)], [.int (-1000001)], M)) (by decide +kernel) rfl trivial ?_
    exact WP.ret (.ireturn, 1, (0, 0), .null) (rk := 1) (by decide +kernel) (by decide +kernel) rfl trivial (hΦ _ _ h)
  · replace h := h.2 c2
    refine WP.blk [(.iload_n 2, 1, (0, 0), .null), (.iconst 0, 1, (0, 0), .int 0), (.iconst 1, 1, (0, 0), .int 1)] (G := True) (c' := (11, [some (.ref 39), some (.int a1), some (.int a2)], [.int 1, .int 0, .int a2], M)) (by decide +kernel) rfl trivial ?_
    refine WP.call (.invokestatic 53, 3, (135, 3), .null) (by decide +kernel) rfl (sp_R_in (d := d + 6) h (fun r3 h => ?_))
    show WP (Ct (d + 7)) 198 Post (14, [some (.ref 39), some (.int a1), some (.int a2)], [.int r3], M)
    refine WP.br (.ifCond .ne 6, 3, (20, 0), .null) (by decide +kernel) rfl (fun c4 => ?_) (fun c4 => ?_)
    · replace h := h.2 c4
      refine WP.blk [(.aload_n 0, 1, (0, 0), .null), (.iconst 0, 1, (0, 0), .int 0), (.putfield 214, 3, (7, 22), .null)] (G := True) (c' := (25, [some (.ref 39), some (.int a1), some (.int a2)], [], (mu M 39 22 0))) (by decide +kernel) rfl trivial ?_
      replace h := h (mu M 39 22 0) rfl
      generalize (mu M 39 22 0) = M5 at h ⊢
      refine WP.blk [(.iload_n 2, 1, (0, 0), .null)] (G := True) (c' := (26, [some (.ref 39), some (.int a1), some (.int a2)], [.int a2], M5)) (by decide +kernel) rfl trivial ?_
      refine WP.br (.ifCond .ne 11, 3, (37, 0), .null) (by decide +kernel) rfl (fun c6 => ?_) (fun c6 => ?_)
      · replace h := h.2 c6
        refine WP.blk [(.aload_n 0, 1, (0, 0), .null), (.iload_n 1, 1, (0, 0), .null)] (G := True) (c' := (39, [some (.ref 39), some (.int a1), some (.int a2)], [.int a1, .ref 39], M5)) (by decide +kernel) rfl trivial ?_
        refine WP.call (.invokevirtual 241, 3, (207, 2), .retAddr 7) (by decide +kernel) rfl (sp_R_markOf (d := d + 0) h (fun r7 M7 h => ?_))
        show WP (Ct (d + 7)) 198 Post (42, [some (.ref 39), some (.int a1), some (.int a2)], [.int r7], M7)
        exact WP.ret (.ireturn, 1, (0, 0), .null) (rk := 1) (by decide +kernel) (by decide +kernel) rfl trivial (hΦ _ _ h)
      · replace h := h.1 (Classical.not_not.mp c6)
        refine WP.blk [(.aload_n 0, 1, (0, 0), .null), (.iload_n 1, 1, (0, 0), .null)] (G := True) (c' := (31, [some (.ref 39), some (.int a1), some (.int a2)], [.int a1, .ref 39], M5)) (by decide +kernel) rfl trivial ?_
        refine WP.call (.invokevirtual 238, 3, (199, 2), .retAddr 7) (by decide +kernel) rfl (sp_R_sizeOf (d := d + 1) h (fun r8 M8 h => ?_))
        show WP (Ct (d + 7)) 198 Post (34, [some (.ref 39), some (.int a1), some (.int a2)], [.int r8], M8)
        refine WP.blk [(.goto 8, 3, (42, 0), .null)] (G := True) (c' := (42, [some (.ref 39), some (.int a1), some (.int a2)], [.int r8], M8)) (by decide +kernel) rfl trivial ?_
        exact WP.ret (.ireturn, 1, (0, 0), .null) (rk := 1) (by decide +kernel) (by decide +kernel) rfl trivial (hΦ _ _ h)
    · replace h := h.1 (Classical.not_not.mp c4)
      refine WP.blk [(.ldc 61, 2, (0, 0), .int (-1000001))] (G := True) (c' := (19, [some (.ref 39), some (.int a1), some (.int a2)], [.int (-1000001)], M)) (by decide +kernel) rfl trivial ?_
      exact WP.ret (.ireturn, 1, (0, 0), .null) (rk := 1) (by decide +kernel) (by decide +kernel) rfl trivial (hΦ _ _ h)
/-- GearRoadModel.trace(I)I -/
def S_R_trace (M : Mm) (a1 : Int32) (Φ : Int32 → Prop) : Prop := S_R_in M a1 0 ((M 39 22) - 1) (fun r1 => ((r1 = 0 → Φ (-1000000)) ∧ (¬ (r1 = 0) → vp_in a1 16 ∧ Φ (M 51 (Int32.toNatClampNeg a1)))))
set_option maxRecDepth 100000 in
set_option maxHeartbeats 4000000 in
theorem sp_R_trace {d : Nat} {Post : Option Value → Mm → Prop} {M : Mm} {a1 : Int32} {Φ : Int32 → Prop} (h : S_R_trace M a1 Φ) (hΦ : ∀ r, Φ r → Post (some (.int r)) M) : Ct (d + 2) 208 [.ref 39, .int a1] M Post := by
  refine Ct.go (n := 2) (E := [some (.ref 39), some (.int a1)]) (by decide +kernel) (by simp [Value.category]) rfl ?_
  refine WP.blk [(.iload_n 1, 1, (0, 0), .null), (.iconst 0, 1, (0, 0), .int 0), (.aload_n 0, 1, (0, 0), .null), (.getfield 214, 3, (7, 22), .null), (.iconst 1, 1, (0, 0), .int 1), (.isub, 1, (0, 0), .null)] (G := True) (c' := (8, [some (.ref 39), some (.int a1)], [.int ((M 39 22) - 1), .int 0, .int a1], M)) (by decide +kernel) rfl trivial ?_
  refine WP.call (.invokestatic 53, 3, (135, 3), .null) (by decide +kernel) rfl (sp_R_in (d := d + 0) h (fun r1 h => ?_))
  show WP (Ct (d + 1)) 208 Post (11, [some (.ref 39), some (.int a1)], [.int r1], M)
  refine WP.br (.ifCond .eq 12, 3, (23, 0), .null) (by decide +kernel) rfl (fun c2 => ?_) (fun c2 => ?_)
  · replace h := h.1 c2
    refine WP.blk [(.ldc 185, 2, (0, 0), .int (-1000000))] (G := True) (c' := (25, [some (.ref 39), some (.int a1)], [.int (-1000000)], M)) (by decide +kernel) rfl trivial ?_
    exact WP.ret (.ireturn, 1, (0, 0), .null) (rk := 1) (by decide +kernel) (by decide +kernel) rfl trivial (hΦ _ h)
  · replace h := h.2 c2
    refine WP.blk [(.aload_n 0, 1, (0, 0), .null), (.getfield 45, 3, (7, 21), .null), (.iload_n 1, 1, (0, 0), .null), (.iaload, 1, (0, 0), .null), (.goto 5, 3, (25, 0), .null)] (G := vp_in a1 16 ∧ True) (c' := (25, [some (.ref 39), some (.int a1)], [.int (M 51 (Int32.toNatClampNeg a1))], M)) (by decide +kernel) rfl ⟨h.1, trivial⟩ ?_
    replace h := h.2
    exact WP.ret (.ireturn, 1, (0, 0), .null) (rk := 1) (by decide +kernel) (by decide +kernel) rfl trivial (hΦ _ h)
/-- GearRoadModel.count(I)I -/
def D_R_count_79 (M : Mm) (Φ : Int32 → Prop) (rec_58 : Int32 × Int32 → Prop) : Int32 × Int32 × Int32 → Prop
  | (x1, x2, x3) => rec_58 ((x3 + x2), (x1 + 1))
def D_R_count_58 (M : Mm) (Φ : Int32 → Prop) (rec_58 : Int32 × Int32 → Prop) : Int32 × Int32 → Prop
  | (x1, x2) => ((8 ≤ x2 → Φ x1) ∧ (¬ (8 ≤ x2) → vp_in x2 8 ∧ (((M 40 (Int32.toNatClampNeg x2)) < 0 → D_R_count_79 M Φ rec_58 (x2, 0, x1)) ∧ (¬ ((M 40 (Int32.toNatClampNeg x2)) < 0) → D_R_count_79 M Φ rec_58 (x2, 1, x1)))))
def S_R_count (M : Mm) (a1 : Int32) (Φ : Int32 → Prop) : Prop := ((a1 = 0 → ∃ n, lp (D_R_count_58 M Φ) n (0, 0)) ∧ (¬ (a1 = 0) → ((a1 = 1 → Φ (M 44 (Int32.toNatClampNeg 2))) ∧ (¬ (a1 = 1) → ((a1 = 2 → Φ (M 44 (Int32.toNatClampNeg 1))) ∧ (¬ (a1 = 2) → ((a1 = 3 → Φ (M 44 (Int32.toNatClampNeg 3))) ∧ (¬ (a1 = 3) → ((a1 = 4 → Φ (M 44 (Int32.toNatClampNeg 0))) ∧ (¬ (a1 = 4) → ((a1 = 5 → S_R_gearOf 44 M (fun r7 => Φ r7)) ∧ (¬ (a1 = 5) → ((a1 = 6 → Φ (M 44 (Int32.toNatClampNeg 6))) ∧ (¬ (a1 = 6) → ((a1 = 7 → Φ (M 44 (Int32.toNatClampNeg 7))) ∧ (¬ (a1 = 7) → ((a1 = 8 → Φ (M 39 9)) ∧ (¬ (a1 = 8) → ((a1 = 9 → Φ (M 39 13)) ∧ (¬ (a1 = 9) → Φ (-1000001)))))))))))))))))))))
set_option maxRecDepth 100000 in
set_option maxHeartbeats 4000000 in
theorem L_R_count_79 {d : Nat} {Post : Option Value → Mm → Prop} {M : Mm} {rec_58 : Int32 × Int32 → Prop} {Φ : Int32 → Prop} (hΦ : ∀ r, Φ r → Post (some (.int r)) M) (hrec_58 : ∀ (x1 : Int32) (x2 : Int32), rec_58 (x1, x2) → WP (Ct (d + 1)) 209 Post (58, [some (.ref 39), none, some (.int x1), some (.int x2)], [], M)) : ∀ (x1 : Int32) (x2 : Int32) (x3 : Int32), D_R_count_79 M Φ rec_58 (x1, x2, x3) → WP (Ct (d + 1)) 209 Post (79, [some (.ref 39), none, none, some (.int x1)], [.int x2, .int x3], M) := by
  intro x1 x2 x3 h
  replace h : rec_58 ((x3 + x2), (x1 + 1)) := h
  refine WP.blk [(.iadd, 1, (0, 0), .null), (.istore_n 2, 1, (0, 0), .null), (.iinc 3 1, 3, (0, 0), .int 1), (.goto (-26), 3, (58, 0), .null)] (G := True) (c' := (58, [some (.ref 39), none, some (.int (x3 + x2)), some (.int (x1 + 1))], [], M)) (by decide +kernel) rfl trivial ?_
  exact hrec_58 _ _ h
set_option maxRecDepth 100000 in
set_option maxHeartbeats 4000000 in
theorem L_R_count_58 {d : Nat} {Post : Option Value → Mm → Prop} {M : Mm} {rec_58 : Int32 × Int32 → Prop} {Φ : Int32 → Prop} (hΦ : ∀ r, Φ r → Post (some (.int r)) M) (hrec_58 : ∀ (x1 : Int32) (x2 : Int32), rec_58 (x1, x2) → WP (Ct (d + 1)) 209 Post (58, [some (.ref 39), none, some (.int x1), some (.int x2)], [], M)) : ∀ (x1 : Int32) (x2 : Int32), D_R_count_58 M Φ rec_58 (x1, x2) → WP (Ct (d + 1)) 209 Post (58, [some (.ref 39), none, some (.int x1), some (.int x2)], [], M) := by
  intro x1 x2 h
  replace h : ((8 ≤ x2 → Φ x1) ∧ (¬ (8 ≤ x2) → vp_in x2 8 ∧ (((M 40 (Int32.toNatClampNeg x2)) < 0 → D_R_count_79 M Φ rec_58 (x2, 0, x1)) ∧ (¬ ((M 40 (Int32.toNatClampNeg x2)) < 0) → D_R_count_79 M Φ rec_58 (x2, 1, x1))))) := h
  refine WP.blk [(.iload_n 3, 1, (0, 0), .null), (.bipush 8, 2, (0, 0), .int 8)] (G := True) (c' := (61, [some (.ref 39), none, some (.int x1), some (.int x2)], [.int 8, .int x2], M)) (by decide +kernel) rfl trivial ?_
  refine WP.br (.if_icmp .ge 26, 3, (87, 0), .null) (by decide +kernel) rfl (fun c3 => ?_) (fun c3 => ?_)
  · replace h := h.1 c3
    refine WP.blk [(.iload_n 2, 1, (0, 0), .null)] (G := True) (c' := (88, [some (.ref 39), none, some (.int x1), some (.int x2)], [.int x1], M)) (by decide +kernel) rfl trivial ?_
    exact WP.ret (.ireturn, 1, (0, 0), .null) (rk := 1) (by decide +kernel) (by decide +kernel) rfl trivial (hΦ _ h)
  · replace h := h.2 c3
    refine WP.blk [(.iload_n 2, 1, (0, 0), .null), (.aload_n 0, 1, (0, 0), .null), (.getfield 7, 3, (7, 0), .null), (.iload_n 3, 1, (0, 0), .null), (.iaload, 1, (0, 0), .null)] (G := vp_in x2 8 ∧ True) (c' := (71, [some (.ref 39), none, some (.int x1), some (.int x2)], [.int (M 40 (Int32.toNatClampNeg x2)), .int x1], M)) (by decide +kernel) rfl ⟨h.1, trivial⟩ ?_
    replace h := h.2
    refine WP.br (.ifCond .lt 7, 3, (78, 0), .null) (by decide +kernel) rfl (fun c4 => ?_) (fun c4 => ?_)
    · replace h := h.1 c4
      refine WP.blk [(.iconst 0, 1, (0, 0), .int 0)] (G := True) (c' := (79, [some (.ref 39), none, some (.int x1), some (.int x2)], [.int 0, .int x1], M)) (by decide +kernel) rfl trivial ?_
      refine WP.fgt [some (.ref 39), none, none, some (.int x2)] (by simp [fgt]) ?_
      exact L_R_count_79 hΦ hrec_58 _ _ _ h
    · replace h := h.2 c4
      refine WP.blk [(.iconst 1, 1, (0, 0), .int 1), (.goto 4, 3, (79, 0), .null)] (G := True) (c' := (79, [some (.ref 39), none, some (.int x1), some (.int x2)], [.int 1, .int x1], M)) (by decide +kernel) rfl trivial ?_
      refine WP.fgt [some (.ref 39), none, none, some (.int x2)] (by simp [fgt]) ?_
      exact L_R_count_79 hΦ hrec_58 _ _ _ h
theorem P_R_count_58 {d : Nat} {Post : Option Value → Mm → Prop} {M : Mm} {Φ : Int32 → Prop} (hΦ : ∀ r, Φ r → Post (some (.int r)) M) : ∀ (n : Nat) (x1 : Int32) (x2 : Int32), lp (D_R_count_58 M Φ) n (x1, x2) → WP (Ct (d + 1)) 209 Post (58, [some (.ref 39), none, some (.int x1), some (.int x2)], [], M)
  | 0, x1, x2, h => absurd h (by simp [lp])
  | n + 1, x1, x2, h => L_R_count_58 hΦ (P_R_count_58 hΦ n) x1 x2 h
set_option maxRecDepth 100000 in
set_option maxHeartbeats 4000000 in
theorem sp_R_count {d : Nat} {Post : Option Value → Mm → Prop} {M : Mm} {a1 : Int32} {Φ : Int32 → Prop} (h : S_R_count M a1 Φ) (hΦ : ∀ r, Φ r → Post (some (.int r)) M) : Ct (d + 2) 209 [.ref 39, .int a1] M Post := by
  refine Ct.go (n := 4) (E := [some (.ref 39), some (.int a1), none, none]) (by decide +kernel) (by simp [Value.category]) rfl ?_
  refine WP.blk [(.iconst 0, 1, (0, 0), .int 0), (.istore_n 2, 1, (0, 0), .null), (.iload_n 1, 1, (0, 0), .null)] (G := True) (c' := (3, [some (.ref 39), some (.int a1), some (.int 0), none], [.int a1], M)) (by decide +kernel) rfl trivial ?_
  by_cases e1 : a1 = 0
  · refine WP.sw (.tableswitch 148 0 9 #[53, 86, 93, 100, 107, 114, 122, 130, 138, 143], 53, (0, 0), .null) 56 (by decide +kernel) (Or.inl ⟨_, _, _, _, rfl⟩) (by rw [e1]; decide) ?_
    replace h := h.1 e1
    refine WP.blk [(.iconst 0, 1, (0, 0), .int 0), (.istore_n 3, 1, (0, 0), .null)] (G := True) (c' := (58, [some (.ref 39), some (.int a1), some (.int 0), some (.int 0)], [], M)) (by decide +kernel) rfl trivial ?_
    refine WP.fgt [some (.ref 39), none, some (.int 0), some (.int 0)] (by simp [fgt]) ?_
    obtain ⟨n, h⟩ := h
    exact P_R_count_58 hΦ n _ _ h
  replace h := h.2 e1
  by_cases e2 : a1 = 1
  · refine WP.sw (.tableswitch 148 0 9 #[53, 86, 93, 100, 107, 114, 122, 130, 138, 143], 53, (0, 0), .null) 89 (by decide +kernel) (Or.inl ⟨_, _, _, _, rfl⟩) (by rw [e2]; decide) ?_
    replace h := h.1 e2
    refine WP.blk [(.aload_n 0, 1, (0, 0), .null), (.getfield 22, 3, (7, 6), .null), (.iconst 2, 1, (0, 0), .int 2), (.iaload, 1, (0, 0), .null)] (G := vp_in 2 35 ∧ True) (c' := (95, [some (.ref 39), some (.int a1), some (.int 0), none], [.int (M 44 (Int32.toNatClampNeg 2))], M)) (by decide +kernel) rfl ⟨(vp_lit (by decide)), trivial⟩ ?_
    exact WP.ret (.ireturn, 1, (0, 0), .null) (rk := 1) (by decide +kernel) (by decide +kernel) rfl trivial (hΦ _ h)
  replace h := h.2 e2
  by_cases e3 : a1 = 2
  · refine WP.sw (.tableswitch 148 0 9 #[53, 86, 93, 100, 107, 114, 122, 130, 138, 143], 53, (0, 0), .null) 96 (by decide +kernel) (Or.inl ⟨_, _, _, _, rfl⟩) (by rw [e3]; decide) ?_
    replace h := h.1 e3
    refine WP.blk [(.aload_n 0, 1, (0, 0), .null), (.getfield 22, 3, (7, 6), .null), (.iconst 1, 1, (0, 0), .int 1), (.iaload, 1, (0, 0), .null)] (G := vp_in 1 35 ∧ True) (c' := (102, [some (.ref 39), some (.int a1), some (.int 0), none], [.int (M 44 (Int32.toNatClampNeg 1))], M)) (by decide +kernel) rfl ⟨(vp_lit (by decide)), trivial⟩ ?_
    exact WP.ret (.ireturn, 1, (0, 0), .null) (rk := 1) (by decide +kernel) (by decide +kernel) rfl trivial (hΦ _ h)
  replace h := h.2 e3
  by_cases e4 : a1 = 3
  · refine WP.sw (.tableswitch 148 0 9 #[53, 86, 93, 100, 107, 114, 122, 130, 138, 143], 53, (0, 0), .null) 103 (by decide +kernel) (Or.inl ⟨_, _, _, _, rfl⟩) (by rw [e4]; decide) ?_
    replace h := h.1 e4
    refine WP.blk [(.aload_n 0, 1, (0, 0), .null), (.getfield 22, 3, (7, 6), .null), (.iconst 3, 1, (0, 0), .int 3), (.iaload, 1, (0, 0), .null)] (G := vp_in 3 35 ∧ True) (c' := (109, [some (.ref 39), some (.int a1), some (.int 0), none], [.int (M 44 (Int32.toNatClampNeg 3))], M)) (by decide +kernel) rfl ⟨(vp_lit (by decide)), trivial⟩ ?_
    exact WP.ret (.ireturn, 1, (0, 0), .null) (rk := 1) (by decide +kernel) (by decide +kernel) rfl trivial (hΦ _ h)
  replace h := h.2 e4
  by_cases e5 : a1 = 4
  · refine WP.sw (.tableswitch 148 0 9 #[53, 86, 93, 100, 107, 114, 122, 130, 138, 143], 53, (0, 0), .null) 110 (by decide +kernel) (Or.inl ⟨_, _, _, _, rfl⟩) (by rw [e5]; decide) ?_
    replace h := h.1 e5
    refine WP.blk [(.aload_n 0, 1, (0, 0), .null), (.getfield 22, 3, (7, 6), .null), (.iconst 0, 1, (0, 0), .int 0), (.iaload, 1, (0, 0), .null)] (G := vp_in 0 35 ∧ True) (c' := (116, [some (.ref 39), some (.int a1), some (.int 0), none], [.int (M 44 (Int32.toNatClampNeg 0))], M)) (by decide +kernel) rfl ⟨(vp_lit (by decide)), trivial⟩ ?_
    exact WP.ret (.ireturn, 1, (0, 0), .null) (rk := 1) (by decide +kernel) (by decide +kernel) rfl trivial (hΦ _ h)
  replace h := h.2 e5
  by_cases e6 : a1 = 5
  · refine WP.sw (.tableswitch 148 0 9 #[53, 86, 93, 100, 107, 114, 122, 130, 138, 143], 53, (0, 0), .null) 117 (by decide +kernel) (Or.inl ⟨_, _, _, _, rfl⟩) (by rw [e6]; decide) ?_
    replace h := h.1 e6
    refine WP.blk [(.aload_n 0, 1, (0, 0), .null), (.getfield 22, 3, (7, 6), .null)] (G := True) (c' := (121, [some (.ref 39), some (.int a1), some (.int 0), none], [.ref 44], M)) (by decide +kernel) rfl trivial ?_
    refine WP.call (.invokestatic 146, 3, (157, 1), .null) (by decide +kernel) rfl (sp_R_gearOf (d := d + 0) (by decide) h (fun r7 h => ?_))
    show WP (Ct (d + 1)) 209 Post (124, [some (.ref 39), some (.int a1), some (.int 0), none], [.int r7], M)
    exact WP.ret (.ireturn, 1, (0, 0), .null) (rk := 1) (by decide +kernel) (by decide +kernel) rfl trivial (hΦ _ h)
  replace h := h.2 e6
  by_cases e8 : a1 = 6
  · refine WP.sw (.tableswitch 148 0 9 #[53, 86, 93, 100, 107, 114, 122, 130, 138, 143], 53, (0, 0), .null) 125 (by decide +kernel) (Or.inl ⟨_, _, _, _, rfl⟩) (by rw [e8]; decide) ?_
    replace h := h.1 e8
    refine WP.blk [(.aload_n 0, 1, (0, 0), .null), (.getfield 22, 3, (7, 6), .null), (.bipush 6, 2, (0, 0), .int 6), (.iaload, 1, (0, 0), .null)] (G := vp_in 6 35 ∧ True) (c' := (132, [some (.ref 39), some (.int a1), some (.int 0), none], [.int (M 44 (Int32.toNatClampNeg 6))], M)) (by decide +kernel) rfl ⟨(vp_lit (by decide)), trivial⟩ ?_
    exact WP.ret (.ireturn, 1, (0, 0), .null) (rk := 1) (by decide +kernel) (by decide +kernel) rfl trivial (hΦ _ h)
  replace h := h.2 e8
  by_cases e9 : a1 = 7
  · refine WP.sw (.tableswitch 148 0 9 #[53, 86, 93, 100, 107, 114, 122, 130, 138, 143], 53, (0, 0), .null) 133 (by decide +kernel) (Or.inl ⟨_, _, _, _, rfl⟩) (by rw [e9]; decide) ?_
    replace h := h.1 e9
    refine WP.blk [(.aload_n 0, 1, (0, 0), .null), (.getfield 22, 3, (7, 6), .null), (.bipush 7, 2, (0, 0), .int 7), (.iaload, 1, (0, 0), .null)] (G := vp_in 7 35 ∧ True) (c' := (140, [some (.ref 39), some (.int a1), some (.int 0), none], [.int (M 44 (Int32.toNatClampNeg 7))], M)) (by decide +kernel) rfl ⟨(vp_lit (by decide)), trivial⟩ ?_
    exact WP.ret (.ireturn, 1, (0, 0), .null) (rk := 1) (by decide +kernel) (by decide +kernel) rfl trivial (hΦ _ h)
  replace h := h.2 e9
  by_cases e10 : a1 = 8
  · refine WP.sw (.tableswitch 148 0 9 #[53, 86, 93, 100, 107, 114, 122, 130, 138, 143], 53, (0, 0), .null) 141 (by decide +kernel) (Or.inl ⟨_, _, _, _, rfl⟩) (by rw [e10]; decide) ?_
    replace h := h.1 e10
    refine WP.blk [(.aload_n 0, 1, (0, 0), .null), (.getfield 76, 3, (7, 9), .null)] (G := True) (c' := (145, [some (.ref 39), some (.int a1), some (.int 0), none], [.int (M 39 9)], M)) (by decide +kernel) rfl trivial ?_
    exact WP.ret (.ireturn, 1, (0, 0), .null) (rk := 1) (by decide +kernel) (by decide +kernel) rfl trivial (hΦ _ h)
  replace h := h.2 e10
  by_cases e11 : a1 = 9
  · refine WP.sw (.tableswitch 148 0 9 #[53, 86, 93, 100, 107, 114, 122, 130, 138, 143], 53, (0, 0), .null) 146 (by decide +kernel) (Or.inl ⟨_, _, _, _, rfl⟩) (by rw [e11]; decide) ?_
    replace h := h.1 e11
    refine WP.blk [(.aload_n 0, 1, (0, 0), .null), (.getfield 87, 3, (7, 13), .null)] (G := True) (c' := (150, [some (.ref 39), some (.int a1), some (.int 0), none], [.int (M 39 13)], M)) (by decide +kernel) rfl trivial ?_
    exact WP.ret (.ireturn, 1, (0, 0), .null) (rk := 1) (by decide +kernel) (by decide +kernel) rfl trivial (hΦ _ h)
  replace h := h.2 e11
  refine WP.sw (.tableswitch 148 0 9 #[53, 86, 93, 100, 107, 114, 122, 130, 138, 143], 53, (0, 0), .null) 151 (by decide +kernel) (Or.inl ⟨_, _, _, _, rfl⟩) (by rw [sw_out (by have := ne_toInt e1; rw [show (0 : Int32).toInt = 0 from by decide] at this; have := ne_toInt e2; rw [show (1 : Int32).toInt = 1 from by decide] at this; have := ne_toInt e3; rw [show (2 : Int32).toInt = 2 from by decide] at this; have := ne_toInt e4; rw [show (3 : Int32).toInt = 3 from by decide] at this; have := ne_toInt e5; rw [show (4 : Int32).toInt = 4 from by decide] at this; have := ne_toInt e6; rw [show (5 : Int32).toInt = 5 from by decide] at this; have := ne_toInt e8; rw [show (6 : Int32).toInt = 6 from by decide] at this; have := ne_toInt e9; rw [show (7 : Int32).toInt = 7 from by decide] at this; have := ne_toInt e10; rw [show (8 : Int32).toInt = 8 from by decide] at this; have := ne_toInt e11; rw [show (9 : Int32).toInt = 9 from by decide] at this; omega)]; rfl) ?_
  refine WP.blk [(.ldc 61, 2, (0, 0), .int (-1000001))] (G := True) (c' := (153, [some (.ref 39), some (.int a1), some (.int 0), none], [.int (-1000001)], M)) (by decide +kernel) rfl trivial ?_
  exact WP.ret (.ireturn, 1, (0, 0), .null) (rk := 1) (by decide +kernel) (by decide +kernel) rfl trivial (hΦ _ h)
/-- GearRoadModel.status()I -/
def S_R_status (M : Mm) (Φ : Int32 → Prop) : Prop := Φ (M 39 3)
set_option maxRecDepth 100000 in
set_option maxHeartbeats 4000000 in
theorem sp_R_status {d : Nat} {Post : Option Value → Mm → Prop} {M : Mm} {Φ : Int32 → Prop} (h : S_R_status M Φ) (hΦ : ∀ r, Φ r → Post (some (.int r)) M) : Ct (d + 1) 210 [.ref 39] M Post := by
  refine Ct.go (n := 1) (E := [some (.ref 39)]) (by decide +kernel) (by simp [Value.category]) rfl ?_
  refine WP.blk [(.aload_n 0, 1, (0, 0), .null), (.getfield 48, 3, (7, 3), .null)] (G := True) (c' := (4, [some (.ref 39)], [.int (M 39 3)], M)) (by decide +kernel) rfl trivial ?_
  exact WP.ret (.ireturn, 1, (0, 0), .null) (rk := 1) (by decide +kernel) (by decide +kernel) rfl trivial (hΦ _ h)
