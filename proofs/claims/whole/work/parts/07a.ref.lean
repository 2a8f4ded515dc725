/-- GearRoadModel.in(III)Z -/
def S_R_in (M : Mm) (a1 : Int32) (a2 : Int32) (a3 : Int32) (Φ : Int32 → Prop) : Prop := ((a1 < a2 → Φ 0) ∧ (¬ (a1 < a2) → ((a3 < a1 → Φ 0) ∧ (¬ (a3 < a1) → Φ 1))))
set_option maxRecDepth 100000 in
set_option maxHeartbeats 4000000 in
theorem sp_R_in {d : Nat} {Post : Option Value → Mm → Prop} {M : Mm} {a1 : Int32} {a2 : Int32} {a3 : Int32} {Φ : Int32 → Prop} (h : S_R_in M a1 a2 a3 Φ) (hΦ : ∀ r, Φ r → Post (some (.int r)) M) : Ct (d + 1) 135 [.int a1, .int a2, .int a3] M Post := by
  refine Ct.go (n := 3) (E := [some (.int a1), some (.int a2), some (.int a3)]) (by decide +kernel) (by simp [Value.category]) rfl ?_
  refine WP.blk [(.iload_n 0, 1, (0, 0), .null), (.iload_n 1, 1, (0, 0), .null)] (G := True) (c' := (2, [some (.int a1), some (.int a2), some (.int a3)], [.int a2, .int a1], M)) (by decide +kernel) rfl trivial ?_
  refine WP.br (.if_icmp .lt 12, 3, (14, 0), .null) (by decide +kernel) rfl (fun c1 => ?_) (fun c1 => ?_)
  · replace h := h.1 c1
    refine WP.blk [(.iconst 0, 1, (0, 0), .int 0)] (G := True) (c' := (15, [some (.int a1), some (.int a2), some (.int a3)], [.int 0], M)) (by decide +kernel) rfl trivial ?_
    exact WP.ret (.ireturn, 1, (0, 0), .null) (rk := 2) (by decide +kernel) (by decide +kernel) rfl (by decide) (hΦ _ h)
  · replace h := h.2 c1
    refine WP.blk [(.iload_n 0, 1, (0, 0), .null), (.iload_n 2, 1, (0, 0), .null)] (G := True) (c' := (7, [some (.int a1), some (.int a2), some (.int a3)], [.int a3, .int a1], M)) (by decide +kernel) rfl trivial ?_
    refine WP.br (.if_icmp .gt 7, 3, (14, 0), .null) (by decide +kernel) rfl (fun c2 => ?_) (fun c2 => ?_)
    · replace h := h.1 c2
      refine WP.blk [(.iconst 0, 1, (0, 0), .int 0)] (G := True) (c' := (15, [some (.int a1), some (.int a2), some (.int a3)], [.int 0], M)) (by decide +kernel) rfl trivial ?_
      exact WP.ret (.ireturn, 1, (0, 0), .null) (rk := 2) (by decide +kernel) (by decide +kernel) rfl (by decide) (hΦ _ h)
    · replace h := h.2 c2
      refine WP.blk [(.iconst 1, 1, (0, 0), .int 1), (.goto 4, 3, (15, 0), .null)] (G := True) (c' := (15, [some (.int a1), some (.int a2), some (.int a3)], [.int 1], M)) (by decide +kernel) rfl trivial ?_
      exact WP.ret (.ireturn, 1, (0, 0), .null) (rk := 2) (by decide +kernel) (by decide +kernel) rfl (by decide) (hΦ _ h)
/-- GearRoadModel.isRow(I)Z -/
def S_R_isRow (M : Mm) (a1 : Int32) (Φ : Int32 → Prop) : Prop := S_R_in M a1 0 7 (fun r1 => ((r1 = 0 ∨ r1 = 1) ∧ Φ r1))
set_option maxRecDepth 100000 in
set_option maxHeartbeats 4000000 in
theorem sp_R_isRow {d : Nat} {Post : Option Value → Mm → Prop} {M : Mm} {a1 : Int32} {Φ : Int32 → Prop} (h : S_R_isRow M a1 Φ) (hΦ : ∀ r, Φ r → Post (some (.int r)) M) : Ct (d + 2) 134 [.int a1] M Post := by
  refine Ct.go (n := 1) (E := [some (.int a1)]) (by decide +kernel) (by simp [Value.category]) rfl ?_
  refine WP.blk [(.iload_n 0, 1, (0, 0), .null), (.iconst 0, 1, (0, 0), .int 0), (.bipush 7, 2, (0, 0), .int 7)] (G := True) (c' := (4, [some (.int a1)], [.int 7, .int 0, .int a1], M)) (by decide +kernel) rfl trivial ?_
  refine WP.call (.invokestatic 53, 3, (135, 3), .null) (by decide +kernel) rfl (sp_R_in (d := d + 0) h (fun r1 h => ?_))
  show WP (Ct (d + 1)) 134 Post (7, [some (.int a1)], [.int r1], M)
  exact WP.ret (.ireturn, 1, (0, 0), .null) (rk := 2) (by decide +kernel) (by decide +kernel) rfl h.1 (hΦ _ h.2)
/-- GearRoadModel.found(I)I -/
def S_R_found (M : Mm) (a1 : Int32) (Φ : Int32 → Mm → Prop) : Prop := (∀ M1, M1 = mu M 39 3 a1 → Φ ((-1000010) - a1) M1)
set_option maxRecDepth 100000 in
set_option maxHeartbeats 4000000 in
theorem sp_R_found {d : Nat} {Post : Option Value → Mm → Prop} {M : Mm} {a1 : Int32} {Φ : Int32 → Mm → Prop} (h : S_R_found M a1 Φ) (hΦ : ∀ r M1, Φ r M1 → Post (some (.int r)) M1) : Ct (d + 1) 136 [.ref 39, .int a1] M Post := by
  refine Ct.go (n := 2) (E := [some (.ref 39), some (.int a1)]) (by decide +kernel) (by simp [Value.category]) rfl ?_
  refine WP.blk [(.aload_n 0, 1, (0, 0), .null), (.iload_n 1, 1, (0, 0), .null), (.putfield 48, 3, (7, 3), .null)] (G := True) (c' := (5, [some (.ref 39), some (.int a1)], [], (mu M 39 3 a1))) (by decide +kernel) rfl trivial ?_
  replace h := h (mu M 39 3 a1) rfl
  generalize (mu M 39 3 a1) = M1 at h ⊢
  refine WP.blk [(.ldc 52, 2, (0, 0), .int (-1000010)), (.iload_n 1, 1, (0, 0), .null), (.isub, 1, (0, 0), .null)] (G := True) (c' := (9, [some (.ref 39), some (.int a1)], [.int ((-1000010) - a1)], M1)) (by decide +kernel) rfl trivial ?_
  exact WP.ret (.ireturn, 1, (0, 0), .null) (rk := 1) (by decide +kernel) (by decide +kernel) rfl trivial (hΦ _ _ h)
/-- GearRoadModel.well(I)I -/
def S_R_well (M : Mm) (a1 : Int32) (Φ : Int32 → Mm → Prop) : Prop := (∀ M1, M1 = mu M 39 3 0 → Φ a1 M1)
set_option maxRecDepth 100000 in
set_option maxHeartbeats 4000000 in
theorem sp_R_well {d : Nat} {Post : Option Value → Mm → Prop} {M : Mm} {a1 : Int32} {Φ : Int32 → Mm → Prop} (h : S_R_well M a1 Φ) (hΦ : ∀ r M1, Φ r M1 → Post (some (.int r)) M1) : Ct (d + 1) 137 [.ref 39, .int a1] M Post := by
  refine Ct.go (n := 2) (E := [some (.ref 39), some (.int a1)]) (by decide +kernel) (by simp [Value.category]) rfl ?_
  refine WP.blk [(.aload_n 0, 1, (0, 0), .null), (.iconst 0, 1, (0, 0), .int 0), (.putfield 48, 3, (7, 3), .null)] (G := True) (c' := (5, [some (.ref 39), some (.int a1)], [], (mu M 39 3 0))) (by decide +kernel) rfl trivial ?_
  replace h := h (mu M 39 3 0) rfl
  generalize (mu M 39 3 0) = M1 at h ⊢
  refine WP.blk [(.iload_n 1, 1, (0, 0), .null)] (G := True) (c' := (6, [some (.ref 39), some (.int a1)], [.int a1], M1)) (by decide +kernel) rfl trivial ?_
  exact WP.ret (.ireturn, 1, (0, 0), .null) (rk := 1) (by decide +kernel) (by decide +kernel) rfl trivial (hΦ _ _ h)
/-- GearRoadModel.row(III)I -/
def D_R_row_52 (Φ : Int32 → Mm → Prop) (rec_52 : Int32 × Int32 × Int32 × Mm → Prop) : Int32 × Int32 × Int32 × Mm → Prop
  | (x1, x2, x3, M) => ((40 ≤ x3 → S_R_well M x2 (fun r5 M5 => Φ r5 M5)) ∧ (¬ (40 ≤ x3) → vp_in ((40 * x1) + x3) 320 ∧ (∀ M6, M6 = mu M 42 (Int32.toNatClampNeg ((40 * x1) + x3)) 0 → rec_52 (x1, x2, (x3 + 1), M6))))
def S_R_row (M : Mm) (a1 : Int32) (a2 : Int32) (a3 : Int32) (Φ : Int32 → Mm → Prop) : Prop := S_R_isRow M a1 (fun r1 => ((r1 = 0 → Φ (-1000001) M) ∧ (¬ (r1 = 0) → S_R_in M a2 0 2 (fun r3 => ((r3 = 0 → Φ (-1000001) M) ∧ (¬ (r3 = 0) → ((a3 ≤ 40 → ((0 ≤ a3 → vp_in a1 8 ∧ (∀ M7, M7 = mu M 40 (Int32.toNatClampNeg a1) a2 → vp_in a1 8 ∧ (∀ M8, M8 = mu M7 41 (Int32.toNatClampNeg a1) a3 → ∃ n, lp (D_R_row_52 Φ) n (a1, a3, 0, M8)))) ∧ (¬ (0 ≤ a3) → S_R_found M 4 (fun r9 M9 => Φ r9 M9)))) ∧ (¬ (a3 ≤ 40) → Φ (-1000001) M))))))))
set_option maxRecDepth 100000 in
set_option maxHeartbeats 4000000 in
theorem L_R_row_52 {d : Nat} {Post : Option Value → Mm → Prop} {rec_52 : Int32 × Int32 × Int32 × Mm → Prop} {Φ : Int32 → Mm → Prop} (hΦ : ∀ r M1, Φ r M1 → Post (some (.int r)) M1) (hrec_52 : ∀ (x1 : Int32) (x2 : Int32) (x3 : Int32) (M : Mm), rec_52 (x1, x2, x3, M) → WP (Ct (d + 2)) 133 Post (52, [some (.ref 39), some (.int x1), none, some (.int x2), some (.int x3)], [], M)) : ∀ (x1 : Int32) (x2 : Int32) (x3 : Int32) (M : Mm), D_R_row_52 Φ rec_52 (x1, x2, x3, M) → WP (Ct (d + 2)) 133 Post (52, [some (.ref 39), some (.int x1), none, some (.int x2), some (.int x3)], [], M) := by
  intro x1 x2 x3 M h
  replace h : ((40 ≤ x3 → S_R_well M x2 (fun r5 M5 => Φ r5 M5)) ∧ (¬ (40 ≤ x3) → vp_in ((40 * x1) + x3) 320 ∧ (∀ M6, M6 = mu M 42 (Int32.toNatClampNeg ((40 * x1) + x3)) 0 → rec_52 (x1, x2, (x3 + 1), M6)))) := h
  refine WP.blk [(.iload 4, 2, (0, 0), .null), (.bipush 40, 2, (0, 0), .int 40)] (G := True) (c' := (56, [some (.ref 39), some (.int x1), none, some (.int x2), some (.int x3)], [.int 40, .int x3], M)) (by decide +kernel) rfl trivial ?_
  refine WP.br (.if_icmp .ge 22, 3, (78, 0), .null) (by decide +kernel) rfl (fun c4 => ?_) (fun c4 => ?_)
  · replace h := h.1 c4
    refine WP.blk [(.aload_n 0, 1, (0, 0), .null), (.iload_n 3, 1, (0, 0), .null)] (G := True) (c' := (80, [some (.ref 39), some (.int x1), none, some (.int x2), some (.int x3)], [.int x2, .ref 39], M)) (by decide +kernel) rfl trivial ?_
    refine WP.call (.invokevirtual 66, 3, (137, 2), .retAddr 7) (by decide +kernel) rfl (sp_R_well (d := d + 1) h (fun r5 M5 h => ?_))
    show WP (Ct (d + 2)) 133 Post (83, [some (.ref 39), some (.int x1), none, some (.int x2), some (.int x3)], [.int r5], M5)
    exact WP.ret (.ireturn, 1, (0, 0), .null) (rk := 1) (by decide +kernel) (by decide +kernel) rfl trivial (hΦ _ _ h)
  · replace h := h.2 c4
    refine WP.blk [(.aload_n 0, 1, (0, 0), .null), (.getfield 16, 3, (7, 2), .null), (.bipush 40, 2, (0, 0), .int 40), (.iload_n 1, 1, (0, 0), .null), (.imul, 1, (0, 0), .null), (.iload 4, 2, (0, 0), .null), (.iadd, 1, (0, 0), .null), (.iconst 0, 1, (0, 0), .int 0), (.iastore, 1, (0, 0), .null)] (G := vp_in ((40 * x1) + x3) 320 ∧ True) (c' := (72, [some (.ref 39), some (.int x1), none, some (.int x2), some (.int x3)], [], (mu M 42 (Int32.toNatClampNeg ((40 * x1) + x3)) 0))) (by decide +kernel) rfl ⟨h.1, trivial⟩ ?_
    replace h := h.2
    replace h := h (mu M 42 (Int32.toNatClampNeg ((40 * x1) + x3)) 0) rfl
    generalize (mu M 42 (Int32.toNatClampNeg ((40 * x1) + x3)) 0) = M6 at h ⊢
    refine WP.blk [(.iinc 4 1, 3, (0, 0), .int 1), (.goto (-23), 3, (52, 0), .null)] (G := True) (c' := (52, [some (.ref 39), some (.int x1), none, some (.int x2), some (.int (x3 + 1))], [], M6)) (by decide +kernel) rfl trivial ?_
    exact hrec_52 _ _ _ _ h
theorem P_R_row_52 {d : Nat} {Post : Option Value → Mm → Prop} {Φ : Int32 → Mm → Prop} (hΦ : ∀ r M1, Φ r M1 → Post (some (.int r)) M1) : ∀ (n : Nat) (x1 : Int32) (x2 : Int32) (x3 : Int32) (M : Mm), lp (D_R_row_52 Φ) n (x1, x2, x3, M) → WP (Ct (d + 2)) 133 Post (52, [some (.ref 39), some (.int x1), none, some (.int x2), some (.int x3)], [], M)
  | 0, x1, x2, x3, M, h => absurd h (by simp [lp])
  | n + 1, x1, x2, x3, M, h => L_R_row_52 hΦ (P_R_row_52 hΦ n) x1 x2 x3 M h
set_option maxRecDepth 100000 in
set_option maxHeartbeats 4000000 in
theorem sp_R_row {d : Nat} {Post : Option Value → Mm → Prop} {M : Mm} {a1 : Int32} {a2 : Int32} {a3 : Int32} {Φ : Int32 → Mm → Prop} (h : S_R_row M a1 a2 a3 Φ) (hΦ : ∀ r M1, Φ r M1 → Post (some (.int r)) M1) : Ct (d + 3) 133 [.ref 39, .int a1, .int a2, .int a3] M Post := by
  refine Ct.go (n := 5) (E := [some (.ref 39), some (.int a1), some (.int a2), some (.int a3), none]) (by decide +kernel) (by simp [Value.category]) rfl ?_
  refine WP.blk [(.iload_n 1, 1, (0, 0), .null)] (G := True) (c' := (1, [some (.ref 39), some (.int a1), some (.int a2), some (.int a3), none], [.int a1], M)) (by decide +kernel) rfl trivial ?_
  refine WP.call (.invokestatic 57, 3, (134, 1), .null) (by decide +kernel) rfl (sp_R_isRow (d := d + 0) h (fun r1 h => ?_))
  show WP (Ct (d + 2)) 133 Post (4, [some (.ref 39), some (.int a1), some (.int a2), some (.int a3), none], [.int r1], M)
  refine WP.br (.ifCond .eq 18, 3, (22, 0), .null) (by decide +kernel) rfl (fun c2 => ?_) (fun c2 => ?_)
  · replace h := h.1 c2
    refine WP.blk [(.ldc 61, 2, (0, 0), .int (-1000001))] (G := True) (c' := (24, [some (.ref 39), some (.int a1), some (.int a2), some (.int a3), none], [.int (-1000001)], M)) (by decide +kernel) rfl trivial ?_
    exact WP.ret (.ireturn, 1, (0, 0), .null) (rk := 1) (by decide +kernel) (by decide +kernel) rfl trivial (hΦ _ _ h)
  · replace h := h.2 c2
    refine WP.blk [(.iload_n 2, 1, (0, 0), .null), (.iconst 0, 1, (0, 0), .int 0), (.iconst 2, 1, (0, 0), .int 2)] (G := True) (c' := (10, [some (.ref 39), some (.int a1), some (.int a2), some (.int a3), none], [.int 2, .int 0, .int a2], M)) (by decide +kernel) rfl trivial ?_
    refine WP.call (.invokestatic 53, 3, (135, 3), .null) (by decide +kernel) rfl (sp_R_in (d := d + 1) h (fun r3 h => ?_))
    show WP (Ct (d + 2)) 133 Post (13, [some (.ref 39), some (.int a1), some (.int a2), some (.int a3), none], [.int r3], M)
    refine WP.br (.ifCond .eq 9, 3, (22, 0), .null) (by decide +kernel) rfl (fun c4 => ?_) (fun c4 => ?_)
    · replace h := h.1 c4
      refine WP.blk [(.ldc 61, 2, (0, 0), .int (-1000001))] (G := True) (c' := (24, [some (.ref 39), some (.int a1), some (.int a2), some (.int a3), none], [.int (-1000001)], M)) (by decide +kernel) rfl trivial ?_
      exact WP.ret (.ireturn, 1, (0, 0), .null) (rk := 1) (by decide +kernel) (by decide +kernel) rfl trivial (hΦ _ _ h)
    · replace h := h.2 c4
      refine WP.blk [(.iload_n 3, 1, (0, 0), .null), (.bipush 40, 2, (0, 0), .int 40)] (G := True) (c' := (19, [some (.ref 39), some (.int a1), some (.int a2), some (.int a3), none], [.int 40, .int a3], M)) (by decide +kernel) rfl trivial ?_
      refine WP.br (.if_icmp .le 6, 3, (25, 0), .null) (by decide +kernel) rfl (fun c5 => ?_) (fun c5 => ?_)
      · replace h := h.1 c5
        refine WP.blk [(.iload_n 3, 1, (0, 0), .null)] (G := True) (c' := (26, [some (.ref 39), some (.int a1), some (.int a2), some (.int a3), none], [.int a3], M)) (by decide +kernel) rfl trivial ?_
        refine WP.br (.ifCond .ge 9, 3, (35, 0), .null) (by decide +kernel) rfl (fun c6 => ?_) (fun c6 => ?_)
        · replace h := h.1 c6
          refine WP.blk [(.aload_n 0, 1, (0, 0), .null), (.getfield 7, 3, (7, 0), .null), (.iload_n 1, 1, (0, 0), .null), (.iload_n 2, 1, (0, 0), .null), (.iastore, 1, (0, 0), .null)] (G := vp_in a1 8 ∧ True) (c' := (42, [some (.ref 39), some (.int a1), some (.int a2), some (.int a3), none], [], (mu M 40 (Int32.toNatClampNeg a1) a2))) (by decide +kernel) rfl ⟨h.1, trivial⟩ ?_
          replace h := h.2
          replace h := h (mu M 40 (Int32.toNatClampNeg a1) a2) rfl
          generalize (mu M 40 (Int32.toNatClampNeg a1) a2) = M7 at h ⊢
          refine WP.blk [(.aload_n 0, 1, (0, 0), .null), (.getfield 13, 3, (7, 1), .null), (.iload_n 1, 1, (0, 0), .null), (.iload_n 3, 1, (0, 0), .null), (.iastore, 1, (0, 0), .null)] (G := vp_in a1 8 ∧ True) (c' := (49, [some (.ref 39), some (.int a1), some (.int a2), some (.int a3), none], [], (mu M7 41 (Int32.toNatClampNeg a1) a3))) (by decide +kernel) rfl ⟨h.1, trivial⟩ ?_
          replace h := h.2
          replace h := h (mu M7 41 (Int32.toNatClampNeg a1) a3) rfl
          generalize (mu M7 41 (Int32.toNatClampNeg a1) a3) = M8 at h ⊢
          refine WP.blk [(.iconst 0, 1, (0, 0), .int 0), (.istore 4, 2, (0, 0), .null)] (G := True) (c' := (52, [some (.ref 39), some (.int a1), some (.int a2), some (.int a3), some (.int 0)], [], M8)) (by decide +kernel) rfl trivial ?_
          refine WP.fgt [some (.ref 39), some (.int a1), none, some (.int a3), some (.int 0)] (by simp [fgt]) ?_
          obtain ⟨n, h⟩ := h
          exact P_R_row_52 hΦ n _ _ _ _ h
        · replace h := h.2 c6
          refine WP.blk [(.aload_n 0, 1, (0, 0), .null), (.iconst 4, 1, (0, 0), .int 4)] (G := True) (c' := (31, [some (.ref 39), some (.int a1), some (.int a2), some (.int a3), none], [.int 4, .ref 39], M)) (by decide +kernel) rfl trivial ?_
          refine WP.call (.invokevirtual 62, 3, (136, 2), .retAddr 7) (by decide +kernel) rfl (sp_R_found (d := d + 1) h (fun r9 M9 h => ?_))
          show WP (Ct (d + 2)) 133 Post (34, [some (.ref 39), some (.int a1), some (.int a2), some (.int a3), none], [.int r9], M9)
          exact WP.ret (.ireturn, 1, (0, 0), .null) (rk := 1) (by decide +kernel) (by decide +kernel) rfl trivial (hΦ _ _ h)
      · replace h := h.2 c5
        refine WP.blk [(.ldc 61, 2, (0, 0), .int (-1000001))] (G := True) (c' := (24, [some (.ref 39), some (.int a1), some (.int a2), some (.int a3), none], [.int (-1000001)], M)) (by decide +kernel) rfl trivial ?_
        exact WP.ret (.ireturn, 1, (0, 0), .null) (rk := 1) (by decide +kernel) (by decide +kernel) rfl trivial (hΦ _ _ h)
/-- GearRoadModel.lowest(II)I -/
def S_R_lowest (M : Mm) (a1 : Int32) (a2 : Int32) (Φ : Int32 → Prop) : Prop := ((a1 = 0 → Φ (Int8.toInt32 (Int32.toInt8 a2))) ∧ (¬ (a1 = 0) → ((a1 = 1 → Φ (Int16.toInt32 (Int32.toInt16 a2))) ∧ (¬ (a1 = 1) → Φ a2))))
set_option maxRecDepth 100000 in
set_option maxHeartbeats 4000000 in
theorem sp_R_lowest {d : Nat} {Post : Option Value → Mm → Prop} {M : Mm} {a1 : Int32} {a2 : Int32} {Φ : Int32 → Prop} (h : S_R_lowest M a1 a2 Φ) (hΦ : ∀ r, Φ r → Post (some (.int r)) M) : Ct (d + 1) 139 [.int a1, .int a2] M Post := by
  refine Ct.go (n := 2) (E := [some (.int a1), some (.int a2)]) (by decide +kernel) (by simp [Value.category]) rfl ?_
  refine WP.blk [(.iload_n 0, 1, (0, 0), .null)] (G := True) (c' := (1, [some (.int a1), some (.int a2)], [.int a1], M)) (by decide +kernel) rfl trivial ?_
  refine WP.br (.ifCond .ne 8, 3, (9, 0), .null) (by decide +kernel) rfl (fun c1 => ?_) (fun c1 => ?_)
  · replace h := h.2 c1
    refine WP.blk [(.iload_n 0, 1, (0, 0), .null), (.iconst 1, 1, (0, 0), .int 1)] (G := True) (c' := (11, [some (.int a1), some (.int a2)], [.int 1, .int a1], M)) (by decide +kernel) rfl trivial ?_
    refine WP.br (.if_icmp .ne 8, 3, (19, 0), .null) (by decide +kernel) rfl (fun c2 => ?_) (fun c2 => ?_)
    · replace h := h.2 c2
      refine WP.blk [(.iload_n 1, 1, (0, 0), .null)] (G := True) (c' := (20, [some (.int a1), some (.int a2)], [.int a2], M)) (by decide +kernel) rfl trivial ?_
      exact WP.ret (.ireturn, 1, (0, 0), .null) (rk := 1) (by decide +kernel) (by decide +kernel) rfl trivial (hΦ _ h)
    · replace h := h.1 (Classical.not_not.mp c2)
      refine WP.blk [(.iload_n 1, 1, (0, 0), .null), (.i2s, 1, (0, 0), .null), (.goto 4, 3, (20, 0), .null)] (G := True) (c' := (20, [some (.int a1), some (.int a2)], [.int (Int16.toInt32 (Int32.toInt16 a2))], M)) (by decide +kernel) rfl trivial ?_
      exact WP.ret (.ireturn, 1, (0, 0), .null) (rk := 1) (by decide +kernel) (by decide +kernel) rfl trivial (hΦ _ h)
  · replace h := h.1 (Classical.not_not.mp c1)
    refine WP.blk [(.iload_n 1, 1, (0, 0), .null), (.i2b, 1, (0, 0), .null), (.goto 14, 3, (20, 0), .null)] (G := True) (c' := (20, [some (.int a1), some (.int a2)], [.int (Int8.toInt32 (Int32.toInt8 a2))], M)) (by decide +kernel) rfl trivial ?_
    exact WP.ret (.ireturn, 1, (0, 0), .null) (rk := 1) (by decide +kernel) (by decide +kernel) rfl trivial (hΦ _ h)
/-- GearRoadModel.set(III)I -/
def S_R_set (M : Mm) (a1 : Int32) (a2 : Int32) (a3 : Int32) (Φ : Int32 → Mm → Prop) : Prop := S_R_isRow M a1 (fun r1 => ((r1 = 0 → Φ (-1000001) M) ∧ (¬ (r1 = 0) → vp_in a1 8 ∧ ((0 ≤ (M 40 (Int32.toNatClampNeg a1)) → vp_in a1 8 ∧ S_R_in M a2 0 ((M 41 (Int32.toNatClampNeg a1)) - 1) (fun r4 => ((r4 = 0 → S_R_found M 2 (fun r9 M9 => Φ r9 M9)) ∧ (¬ (r4 = 0) → vp_in a1 8 ∧ S_R_lowest M (M 40 (Int32.toNatClampNeg a1)) a3 (fun r6 => vp_in ((40 * a1) + a2) 320 ∧ (∀ M7, M7 = mu M 42 (Int32.toNatClampNeg ((40 * a1) + a2)) r6 → vp_in ((40 * a1) + a2) 320 ∧ S_R_well M7 (M7 42 (Int32.toNatClampNeg ((40 * a1) + a2))) (fun r8 M8 => Φ r8 M8))))))) ∧ (¬ (0 ≤ (M 40 (Int32.toNatClampNeg a1))) → S_R_found M 1 (fun r10 M10 => Φ r10 M10))))))
set_option maxRecDepth 100000 in
set_option maxHeartbeats 4000000 in
theorem sp_R_set {d : Nat} {Post : Option Value → Mm → Prop} {M : Mm} {a1 : Int32} {a2 : Int32} {a3 : Int32} {Φ : Int32 → Mm → Prop} (h : S_R_set M a1 a2 a3 Φ) (hΦ : ∀ r M1, Φ r M1 → Post (some (.int r)) M1) : Ct (d + 3) 138 [.ref 39, .int a1, .int a2, .int a3] M Post := by
  refine Ct.go (n := 4) (E := [some (.ref 39), some (.int a1), some (.int a2), some (.int a3)]) (by decide +kernel) (by simp [Value.category]) rfl ?_
  refine WP.blk [(.iload_n 1, 1, (0, 0), .null)] (G := True) (c' := (1, [some (.ref 39), some (.int a1), some (.int a2), some (.int a3)], [.int a1], M)) (by decide +kernel) rfl trivial ?_
  refine WP.call (.invokestatic 57, 3, (134, 1), .null) (by decide +kernel) rfl (sp_R_isRow (d := d + 0) h (fun r1 h => ?_))
  show WP (Ct (d + 2)) 138 Post (4, [some (.ref 39), some (.int a1), some (.int a2), some (.int a3)], [.int r1], M)
  refine WP.br (.ifCond .ne 6, 3, (10, 0), .null) (by decide +kernel) rfl (fun c2 => ?_) (fun c2 => ?_)
  · replace h := h.2 c2
    refine WP.blk [(.aload_n 0, 1, (0, 0), .null), (.getfield 7, 3, (7, 0), .null), (.iload_n 1, 1, (0, 0), .null), (.iaload, 1, (0, 0), .null)] (G := vp_in a1 8 ∧ True) (c' := (16, [some (.ref 39), some (.int a1), some (.int a2), some (.int a3)], [.int (M 40 (Int32.toNatClampNeg a1))], M)) (by decide +kernel) rfl ⟨h.1, trivial⟩ ?_
    replace h := h.2
    refine WP.br (.ifCond .ge 9, 3, (25, 0), .null) (by decide +kernel) rfl (fun c3 => ?_) (fun c3 => ?_)
    · replace h := h.1 c3
      refine WP.blk [(.iload_n 2, 1, (0, 0), .null), (.iconst 0, 1, (0, 0), .int 0), (.aload_n 0, 1, (0, 0), .null), (.getfield 13, 3, (7, 1), .null), (.iload_n 1, 1, (0, 0), .null), (.iaload, 1, (0, 0), .null), (.iconst 1, 1, (0, 0), .int 1), (.isub, 1, (0, 0), .null)] (G := vp_in a1 8 ∧ True) (c' := (35, [some (.ref 39), some (.int a1), some (.int a2), some (.int a3)], [.int ((M 41 (Int32.toNatClampNeg a1)) - 1), .int 0, .int a2], M)) (by decide +kernel) rfl ⟨h.1, trivial⟩ ?_
      replace h := h.2
      refine WP.call (.invokestatic 53, 3, (135, 3), .null) (by decide +kernel) rfl (sp_R_in (d := d + 1) h (fun r4 h => ?_))
      show WP (Ct (d + 2)) 138 Post (38, [some (.ref 39), some (.int a1), some (.int a2), some (.int a3)], [.int r4], M)
      refine WP.br (.ifCond .ne 9, 3, (47, 0), .null) (by decide +kernel) rfl (fun c5 => ?_) (fun c5 => ?_)
      · replace h := h.2 c5
        refine WP.blk [(.aload_n 0, 1, (0, 0), .null), (.getfield 16, 3, (7, 2), .null), (.bipush 40, 2, (0, 0), .int 40), (.iload_n 1, 1, (0, 0), .null), (.imul, 1, (0, 0), .null), (.iload_n 2, 1, (0, 0), .null), (.iadd, 1, (0, 0), .null), (.aload_n 0, 1, (0, 0), .null), (.getfield 7, 3, (7, 0), .null), (.iload_n 1, 1, (0, 0), .null), (.iaload, 1, (0, 0), .null), (.iload_n 3, 1, (0, 0), .null)] (G := vp_in a1 8 ∧ True) (c' := (64, [some (.ref 39), some (.int a1), some (.int a2), some (.int a3)], [.int a3, .int (M 40 (Int32.toNatClampNeg a1)), .int ((40 * a1) + a2), .ref 42], M)) (by decide +kernel) rfl ⟨h.1, trivial⟩ ?_
        replace h := h.2
        refine WP.call (.invokestatic 69, 3, (139, 2), .null) (by decide +kernel) rfl (sp_R_lowest (d := d + 1) h (fun r6 h => ?_))
        show WP (Ct (d + 2)) 138 Post (67, [some (.ref 39), some (.int a1), some (.int a2), some (.int a3)], [.int r6, .int ((40 * a1) + a2), .ref 42], M)
        refine WP.blk [(.iastore, 1, (0, 0), .null)] (G := vp_in ((40 * a1) + a2) 320 ∧ True) (c' := (68, [some (.ref 39), some (.int a1), some (.int a2), some (.int a3)], [], (mu M 42 (Int32.toNatClampNeg ((40 * a1) + a2)) r6))) (by decide +kernel) rfl ⟨h.1, trivial⟩ ?_
        replace h := h.2
        replace h := h (mu M 42 (Int32.toNatClampNeg ((40 * a1) + a2)) r6) rfl
        generalize (mu M 42 (Int32.toNatClampNeg ((40 * a1) + a2)) r6) = M7 at h ⊢
        refine WP.blk [(.aload_n 0, 1, (0, 0), .null), (.aload_n 0, 1, (0, 0), .null), (.getfield 16, 3, (7, 2), .null), (.bipush 40, 2, (0, 0), .int 40), (.iload_n 1, 1, (0, 0), .null), (.imul, 1, (0, 0), .null), (.iload_n 2, 1, (0, 0), .null), (.iadd, 1, (0, 0), .null), (.iaload, 1, (0, 0), .null)] (G := vp_in ((40 * a1) + a2) 320 ∧ True) (c' := (80, [some (.ref 39), some (.int a1), some (.int a2), some (.int a3)], [.int (M7 42 (Int32.toNatClampNeg ((40 * a1) + a2))), .ref 39], M7)) (by decide +kernel) rfl ⟨h.1, trivial⟩ ?_
        replace h := h.2
        refine WP.call (.invokevirtual 66, 3, (137, 2), .retAddr 7) (by decide +kernel) rfl (sp_R_well (d := d + 1) h (fun r8 M8 h => ?_))
        show WP (Ct (d + 2)) 138 Post (83, [some (.ref 39), some (.int a1), some (.int a2), some (.int a3)], [.int r8], M8)
        exact WP.ret (.ireturn, 1, (0, 0), .null) (rk := 1) (by decide +kernel) (by decide +kernel) rfl trivial (hΦ _ _ h)
      · replace h := h.1 (Classical.not_not.mp c5)
        refine WP.blk [(.aload_n 0, 1, (0, 0), .null), (.iconst 2, 1, (0, 0), .int 2)] (G := True) (c' := (43, [some (.ref 39), some (.int a1), some (.int a2), some (.int a3)], [.int 2, .ref 39], M)) (by decide +kernel) rfl trivial ?_
        refine WP.call (.invokevirtual 62, 3, (136, 2), .retAddr 7) (by decide +kernel) rfl (sp_R_found (d := d + 1) h (fun r9 M9 h => ?_))
        show WP (Ct (d + 2)) 138 Post (46, [some (.ref 39), some (.int a1), some (.int a2), some (.int a3)], [.int r9], M9)
        exact WP.ret (.ireturn, 1, (0, 0), .null) (rk := 1) (by decide +kernel) (by decide +kernel) rfl trivial (hΦ _ _ h)
    · replace h := h.2 c3
      refine WP.blk [(.aload_n 0, 1, (0, 0), .null), (.iconst 1, 1, (0, 0), .int 1)] (G := True) (c' := (21, [some (.ref 39), some (.int a1), some (.int a2), some (.int a3)], [.int 1, .ref 39], M)) (by decide +kernel) rfl trivial ?_
      refine WP.call (.invokevirtual 62, 3, (136, 2), .retAddr 7) (by decide +kernel) rfl (sp_R_found (d := d + 1) h (fun r10 M10 h => ?_))
      show WP (Ct (d + 2)) 138 Post (24, [some (.ref 39), some (.int a1), some (.int a2), some (.int a3)], [.int r10], M10)
      exact WP.ret (.ireturn, 1, (0, 0), .null) (rk := 1) (by decide +kernel) (by decide +kernel) rfl trivial (hΦ _ _ h)
  · replace h := h.1 (Classical.not_not.mp c2)
    refine WP.blk [(.ldc 61, 2, (0, 0), .int (-1000001))] (G := True) (c' := (9, [some (.ref 39), some (.int a1), some (.int a2), some (.int a3)], [.int (-1000001)], M)) (by decide +kernel) rfl trivial ?_
    exact WP.ret (.ireturn, 1, (0, 0), .null) (rk := 1) (by decide +kernel) (by decide +kernel) rfl trivial (hΦ _ _ h)
/-- GearRoadModel.areIn(III)Z -/
def S_R_areIn (M : Mm) (a1 : Int32) (a2 : Int32) (a3 : Int32) (Φ : Int32 → Prop) : Prop := ((a2 < 0 → Φ 0) ∧ (¬ (a2 < 0) → ((a3 < 0 → Φ 0) ∧ (¬ (a3 < 0) → vp_in a1 8 ∧ ((((M 41 (Int32.toNatClampNeg a1)) - a3) < a2 → Φ 0) ∧ (¬ (((M 41 (Int32.toNatClampNeg a1)) - a3) < a2) → Φ 1))))))
set_option maxRecDepth 100000 in
set_option maxHeartbeats 4000000 in
theorem sp_R_areIn {d : Nat} {Post : Option Value → Mm → Prop} {M : Mm} {a1 : Int32} {a2 : Int32} {a3 : Int32} {Φ : Int32 → Prop} (h : S_R_areIn M a1 a2 a3 Φ) (hΦ : ∀ r, Φ r → Post (some (.int r)) M) : Ct (d + 1) 141 [.ref 39, .int a1, .int a2, .int a3] M Post := by
  refine Ct.go (n := 4) (E := [some (.ref 39), some (.int a1), some (.int a2), some (.int a3)]) (by decide +kernel) (by simp [Value.category]) rfl ?_
  refine WP.blk [(.iload_n 2, 1, (0, 0), .null)] (G := True) (c' := (1, [some (.ref 39), some (.int a1), some (.int a2), some (.int a3)], [.int a2], M)) (by decide +kernel) rfl trivial ?_
  refine WP.br (.ifCond .lt 23, 3, (24, 0), .null) (by decide +kernel) rfl (fun c1 => ?_) (fun c1 => ?_)
  · replace h := h.1 c1
    refine WP.blk [(.iconst 0, 1, (0, 0), .int 0)] (G := True) (c' := (25, [some (.ref 39), some (.int a1), some (.int a2), some (.int a3)], [.int 0], M)) (by decide +kernel) rfl trivial ?_
    exact WP.ret (.ireturn, 1, (0, 0), .null) (rk := 2) (by decide +kernel) (by decide +kernel) rfl (by decide) (hΦ _ h)
  · replace h := h.2 c1
    refine WP.blk [(.iload_n 3, 1, (0, 0), .null)] (G := True) (c' := (5, [some (.ref 39), some (.int a1), some (.int a2), some (.int a3)], [.int a3], M)) (by decide +kernel) rfl trivial ?_
    refine WP.br (.ifCond .lt 19, 3, (24, 0), .null) (by decide +kernel) rfl (fun c2 => ?_) (fun c2 => ?_)
    · replace h := h.1 c2
      refine WP.blk [(.iconst 0, 1, (0, 0), .int 0)] (G := True) (c' := (25, [some (.ref 39), some (.int a1), some (.int a2), some (.int a3)], [.int 0], M)) (by decide +kernel) rfl trivial ?_
      exact WP.ret (.ireturn, 1, (0, 0), .null) (rk := 2) (by decide +kernel) (by decide +kernel) rfl (by decide) (hΦ _ h)
    · replace h := h.2 c2
      refine WP.blk [(.iload_n 2, 1, (0, 0), .null), (.aload_n 0, 1, (0, 0), .null), (.getfield 13, 3, (7, 1), .null), (.iload_n 1, 1, (0, 0), .null), (.iaload, 1, (0, 0), .null), (.iload_n 3, 1, (0, 0), .null), (.isub, 1, (0, 0), .null)] (G := vp_in a1 8 ∧ True) (c' := (17, [some (.ref 39), some (.int a1), some (.int a2), some (.int a3)], [.int ((M 41 (Int32.toNatClampNeg a1)) - a3), .int a2], M)) (by decide +kernel) rfl ⟨h.1, trivial⟩ ?_
      replace h := h.2
      refine WP.br (.if_icmp .gt 7, 3, (24, 0), .null) (by decide +kernel) rfl (fun c3 => ?_) (fun c3 => ?_)
      · replace h := h.1 c3
        refine WP.blk [(.iconst 0, 1, (0, 0), .int 0)] (G := True) (c' := (25, [some (.ref 39), some (.int a1), some (.int a2), some (.int a3)], [.int 0], M)) (by decide +kernel) rfl trivial ?_
        exact WP.ret (.ireturn, 1, (0, 0), .null) (rk := 2) (by decide +kernel) (by decide +kernel) rfl (by decide) (hΦ _ h)
      · replace h := h.2 c3
        refine WP.blk [(.iconst 1, 1, (0, 0), .int 1), (.goto 4, 3, (25, 0), .null)] (G := True) (c' := (25, [some (.ref 39), some (.int a1), some (.int a2), some (.int a3)], [.int 1], M)) (by decide +kernel) rfl trivial ?_
        exact WP.ret (.ireturn, 1, (0, 0), .null) (rk := 2) (by decide +kernel) (by decide +kernel) rfl (by decide) (hΦ _ h)
/-- GearRoadModel.copy(IIIII)I -/
def D_R_copy_131 (Φ : Int32 → Mm → Prop) (rec_131 : Int32 × Int32 × Int32 × Int32 × Mm → Prop) : Int32 × Int32 × Int32 × Int32 × Mm → Prop
  | (x1, x2, x3, x4, M) => ((x3 ≤ x4 → S_R_well M x3 (fun r6 M6 => Φ r6 M6)) ∧ (¬ (x3 ≤ x4) → vp_in x4 40 ∧ vp_in (((40 * x1) + x2) + x4) 320 ∧ (∀ M7, M7 = mu M 42 (Int32.toNatClampNeg (((40 * x1) + x2) + x4)) (M 43 (Int32.toNatClampNeg x4)) → rec_131 (x1, x2, x3, (x4 + 1), M7))))
def D_R_copy_94 (Φ : Int32 → Mm → Prop) (rec_94 : Int32 × Int32 × Int32 × Int32 × Int32 × Int32 × Mm → Prop) : Int32 × Int32 × Int32 × Int32 × Int32 × Int32 × Mm → Prop
  | (x1, x2, x3, x4, x5, x6, M) => ((x5 ≤ x6 → ∃ n, lp (D_R_copy_131 Φ) n (x3, x4, x5, 0, M)) ∧ (¬ (x5 ≤ x6) → vp_in (((40 * x1) + x2) + x6) 320 ∧ vp_in x6 40 ∧ (∀ M8, M8 = mu M 43 (Int32.toNatClampNeg x6) (M 42 (Int32.toNatClampNeg (((40 * x1) + x2) + x6))) → rec_94 (x1, x2, x3, x4, x5, (x6 + 1), M8))))
def D_R_copy_85 (Φ : Int32 → Mm → Prop) : Mm → Prop
  | M => S_R_found M 2 (fun r1 M1 => Φ r1 M1)
def D_R_copy_35 (Φ : Int32 → Mm → Prop) : Mm → Prop
  | M => S_R_found M 1 (fun r1 M1 => Φ r1 M1)
def S_R_copy (M : Mm) (a1 : Int32) (a2 : Int32) (a3 : Int32) (a4 : Int32) (a5 : Int32) (Φ : Int32 → Mm → Prop) : Prop := S_R_isRow M a1 (fun r1 => ((r1 = 0 → Φ (-1000001) M) ∧ (¬ (r1 = 0) → S_R_isRow M a3 (fun r3 => ((r3 = 0 → Φ (-1000001) M) ∧ (¬ (r3 = 0) → vp_in a1 8 ∧ (((M 40 (Int32.toNatClampNeg a1)) < 0 → D_R_copy_35 Φ M) ∧ (¬ ((M 40 (Int32.toNatClampNeg a1)) < 0) → vp_in a3 8 ∧ ((0 ≤ (M 40 (Int32.toNatClampNeg a3)) → vp_in a1 8 ∧ vp_in a3 8 ∧ (((M 40 (Int32.toNatClampNeg a1)) = (M 40 (Int32.toNatClampNeg a3)) → S_R_areIn M a1 a2 a5 (fun r8 => ((r8 = 0 → D_R_copy_85 Φ M) ∧ (¬ (r8 = 0) → S_R_areIn M a3 a4 a5 (fun r10 => ((r10 = 0 → D_R_copy_85 Φ M) ∧ (¬ (r10 = 0) → ∃ n, lp (D_R_copy_94 Φ) n (a1, a2, a3, a4, a5, 0, M)))))))) ∧ (¬ ((M 40 (Int32.toNatClampNeg a1)) = (M 40 (Int32.toNatClampNeg a3))) → S_R_found M 5 (fun r12 M12 => Φ r12 M12)))) ∧ (¬ (0 ≤ (M 40 (Int32.toNatClampNeg a3))) → D_R_copy_35 Φ M))))))))))
set_option maxRecDepth 100000 in
set_option maxHeartbeats 4000000 in
theorem L_R_copy_131 {d : Nat} {Post : Option Value → Mm → Prop} {rec_131 : Int32 × Int32 × Int32 × Int32 × Mm → Prop} {Φ : Int32 → Mm → Prop} (hΦ : ∀ r M1, Φ r M1 → Post (some (.int r)) M1) (hrec_131 : ∀ (x1 : Int32) (x2 : Int32) (x3 : Int32) (x4 : Int32) (M : Mm), rec_131 (x1, x2, x3, x4, M) → WP (Ct (d + 2)) 140 Post (131, [some (.ref 39), none, none, some (.int x1), some (.int x2), some (.int x3), some (.int x4)], [], M)) : ∀ (x1 : Int32) (x2 : Int32) (x3 : Int32) (x4 : Int32) (M : Mm), D_R_copy_131 Φ rec_131 (x1, x2, x3, x4, M) → WP (Ct (d + 2)) 140 Post (131, [some (.ref 39), none, none, some (.int x1), some (.int x2), some (.int x3), some (.int x4)], [], M) := by
  intro x1 x2 x3 x4 M h
  replace h : ((x3 ≤ x4 → S_R_well M x3 (fun r6 M6 => Φ r6 M6)) ∧ (¬ (x3 ≤ x4) → vp_in x4 40 ∧ vp_in (((40 * x1) + x2) + x4) 320 ∧ (∀ M7, M7 = mu M 42 (Int32.toNatClampNeg (((40 * x1) + x2) + x4)) (M 43 (Int32.toNatClampNeg x4)) → rec_131 (x1, x2, x3, (x4 + 1), M7)))) := h
  refine WP.blk [(.iload 6, 2, (0, 0), .null), (.iload 5, 2, (0, 0), .null)] (G := True) (c' := (135, [some (.ref 39), none, none, some (.int x1), some (.int x2), some (.int x3), some (.int x4)], [.int x3, .int x4], M)) (by decide +kernel) rfl trivial ?_
  refine WP.br (.if_icmp .ge 31, 3, (166, 0), .null) (by decide +kernel) rfl (fun c5 => ?_) (fun c5 => ?_)
  · replace h := h.1 c5
    refine WP.blk [(.aload_n 0, 1, (0, 0), .null), (.iload 5, 2, (0, 0), .null)] (G := True) (c' := (169, [some (.ref 39), none, none, some (.int x1), some (.int x2), some (.int x3), some (.int x4)], [.int x3, .ref 39], M)) (by decide +kernel) rfl trivial ?_
    refine WP.call (.invokevirtual 66, 3, (137, 2), .retAddr 7) (by decide +kernel) rfl (sp_R_well (d := d + 1) h (fun r6 M6 h => ?_))
    show WP (Ct (d + 2)) 140 Post (172, [some (.ref 39), none, none, some (.int x1), some (.int x2), some (.int x3), some (.int x4)], [.int r6], M6)
    exact WP.ret (.ireturn, 1, (0, 0), .null) (rk := 1) (by decide +kernel) (by decide +kernel) rfl trivial (hΦ _ _ h)
  · replace h := h.2 c5
    refine WP.blk [(.aload_n 0, 1, (0, 0), .null), (.getfield 16, 3, (7, 2), .null), (.bipush 40, 2, (0, 0), .int 40), (.iload_n 3, 1, (0, 0), .null), (.imul, 1, (0, 0), .null), (.iload 4, 2, (0, 0), .null), (.iadd, 1, (0, 0), .null), (.iload 6, 2, (0, 0), .null), (.iadd, 1, (0, 0), .null), (.aload_n 0, 1, (0, 0), .null), (.getfield 19, 3, (7, 4), .null), (.iload 6, 2, (0, 0), .null), (.iaload, 1, (0, 0), .null), (.iastore, 1, (0, 0), .null)] (G := vp_in x4 40 ∧ vp_in (((40 * x1) + x2) + x4) 320 ∧ True) (c' := (160, [some (.ref 39), none, none, some (.int x1), some (.int x2), some (.int x3), some (.int x4)], [], (mu M 42 (Int32.toNatClampNeg (((40 * x1) + x2) + x4)) (M 43 (Int32.toNatClampNeg x4))))) (by decide +kernel) rfl ⟨h.1, h.2.1, trivial⟩ ?_
    replace h := h.2.2
    replace h := h (mu M 42 (Int32.toNatClampNeg (((40 * x1) + x2) + x4)) (M 43 (Int32.toNatClampNeg x4))) rfl
    generalize (mu M 42 (Int32.toNatClampNeg (((40 * x1) + x2) + x4)) (M 43 (Int32.toNatClampNeg x4))) = M7 at h ⊢
    refine WP.blk [(.iinc 6 1, 3, (0, 0), .int 1), (.goto (-32), 3, (131, 0), .null)] (G := True) (c' := (131, [some (.ref 39), none, none, some (.int x1), some (.int x2), some (.int x3), some (.int (x4 + 1))], [], M7)) (by decide +kernel) rfl trivial ?_
    exact hrec_131 _ _ _ _ _ h
theorem P_R_copy_131 {d : Nat} {Post : Option Value → Mm → Prop} {Φ : Int32 → Mm → Prop} (hΦ : ∀ r M1, Φ r M1 → Post (some (.int r)) M1) : ∀ (n : Nat) (x1 : Int32) (x2 : Int32) (x3 : Int32) (x4 : Int32) (M : Mm), lp (D_R_copy_131 Φ) n (x1, x2, x3, x4, M) → WP (Ct (d + 2)) 140 Post (131, [some (.ref 39), none, none, some (.int x1), some (.int x2), some (.int x3), some (.int x4)], [], M)
  | 0, x1, x2, x3, x4, M, h => absurd h (by simp [lp])
  | n + 1, x1, x2, x3, x4, M, h => L_R_copy_131 hΦ (P_R_copy_131 hΦ n) x1 x2 x3 x4 M h
set_option maxRecDepth 100000 in
set_option maxHeartbeats 4000000 in
theorem L_R_copy_94 {d : Nat} {Post : Option Value → Mm → Prop} {rec_94 : Int32 × Int32 × Int32 × Int32 × Int32 × Int32 × Mm → Prop} {Φ : Int32 → Mm → Prop} (hΦ : ∀ r M1, Φ r M1 → Post (some (.int r)) M1) (hrec_94 : ∀ (x1 : Int32) (x2 : Int32) (x3 : Int32) (x4 : Int32) (x5 : Int32) (x6 : Int32) (M : Mm), rec_94 (x1, x2, x3, x4, x5, x6, M) → WP (Ct (d + 2)) 140 Post (94, [some (.ref 39), some (.int x1), some (.int x2), some (.int x3), some (.int x4), some (.int x5), some (.int x6)], [], M)) : ∀ (x1 : Int32) (x2 : Int32) (x3 : Int32) (x4 : Int32) (x5 : Int32) (x6 : Int32) (M : Mm), D_R_copy_94 Φ rec_94 (x1, x2, x3, x4, x5, x6, M) → WP (Ct (d + 2)) 140 Post (94, [some (.ref 39), some (.int x1), some (.int x2), some (.int x3), some (.int x4), some (.int x5), some (.int x6)], [], M) := by
  intro x1 x2 x3 x4 x5 x6 M h
  replace h : ((x5 ≤ x6 → ∃ n, lp (D_R_copy_131 Φ) n (x3, x4, x5, 0, M)) ∧ (¬ (x5 ≤ x6) → vp_in (((40 * x1) + x2) + x6) 320 ∧ vp_in x6 40 ∧ (∀ M8, M8 = mu M 43 (Int32.toNatClampNeg x6) (M 42 (Int32.toNatClampNeg (((40 * x1) + x2) + x6))) → rec_94 (x1, x2, x3, x4, x5, (x6 + 1), M8)))) := h
  refine WP.blk [(.iload 6, 2, (0, 0), .null), (.iload 5, 2, (0, 0), .null)] (G := True) (c' := (98, [some (.ref 39), some (.int x1), some (.int x2), some (.int x3), some (.int x4), some (.int x5), some (.int x6)], [.int x5, .int x6], M)) (by decide +kernel) rfl trivial ?_
  refine WP.br (.if_icmp .ge 30, 3, (128, 0), .null) (by decide +kernel) rfl (fun c7 => ?_) (fun c7 => ?_)
  · replace h := h.1 c7
    refine WP.blk [(.iconst 0, 1, (0, 0), .int 0), (.istore 6, 2, (0, 0), .null)] (G := True) (c' := (131, [some (.ref 39), some (.int x1), some (.int x2), some (.int x3), some (.int x4), some (.int x5), some (.int 0)], [], M)) (by decide +kernel) rfl trivial ?_
    refine WP.fgt [some (.ref 39), none, none, some (.int x3), some (.int x4), some (.int x5), some (.int 0)] (by simp [fgt]) ?_
    obtain ⟨n, h⟩ := h
    exact P_R_copy_131 hΦ n _ _ _ _ _ h
  · replace h := h.2 c7
    refine WP.blk [(.aload_n 0, 1, (0, 0), .null), (.getfield 19, 3, (7, 4), .null), (.iload 6, 2, (0, 0), .null), (.aload_n 0, 1, (0, 0), .null), (.getfield 16, 3, (7, 2), .null), (.bipush 40, 2, (0, 0), .int 40), (.iload_n 1, 1, (0, 0), .null), (.imul, 1, (0, 0), .null), (.iload_n 2, 1, (0, 0), .null), (.iadd, 1, (0, 0), .null), (.iload 6, 2, (0, 0), .null), (.iadd, 1, (0, 0), .null), (.iaload, 1, (0, 0), .null), (.iastore, 1, (0, 0), .null)] (G := vp_in (((40 * x1) + x2) + x6) 320 ∧ vp_in x6 40 ∧ True) (c' := (122, [some (.ref 39), some (.int x1), some (.int x2), some (.int x3), some (.int x4), some (.int x5), some (.int x6)], [], (mu M 43 (Int32.toNatClampNeg x6) (M 42 (Int32.toNatClampNeg (((40 * x1) + x2) + x6)))))) (by decide +kernel) rfl ⟨h.1, h.2.1, trivial⟩ ?_
    replace h := h.2.2
    replace h := h (mu M 43 (Int32.toNatClampNeg x6) (M 42 (Int32.toNatClampNeg (((40 * x1) + x2) + x6)))) rfl
    generalize (mu M 43 (Int32.toNatClampNeg x6) (M 42 (Int32.toNatClampNeg (((40 * x1) + x2) + x6)))) = M8 at h ⊢
    refine WP.blk [(.iinc 6 1, 3, (0, 0), .int 1), (.goto (-31), 3, (94, 0), .null)] (G := True) (c' := (94, [some (.ref 39), some (.int x1), some (.int x2), some (.int x3), some (.int x4), some (.int x5), some (.int (x6 + 1))], [], M8)) (by decide +kernel) rfl trivial ?_
    exact hrec_94 _ _ _ _ _ _ _ h
theorem P_R_copy_94 {d : Nat} {Post : Option Value → Mm → Prop} {Φ : Int32 → Mm → Prop} (hΦ : ∀ r M1, Φ r M1 → Post (some (.int r)) M1) : ∀ (n : Nat) (x1 : Int32) (x2 : Int32) (x3 : Int32) (x4 : Int32) (x5 : Int32) (x6 : Int32) (M : Mm), lp (D_R_copy_94 Φ) n (x1, x2, x3, x4, x5, x6, M) → WP (Ct (d + 2)) 140 Post (94, [some (.ref 39), some (.int x1), some (.int x2), some (.int x3), some (.int x4), some (.int x5), some (.int x6)], [], M)
  | 0, x1, x2, x3, x4, x5, x6, M, h => absurd h (by simp [lp])
  | n + 1, x1, x2, x3, x4, x5, x6, M, h => L_R_copy_94 hΦ (P_R_copy_94 hΦ n) x1 x2 x3 x4 x5 x6 M h
set_option maxRecDepth 100000 in
set_option maxHeartbeats 4000000 in
theorem L_R_copy_85 {d : Nat} {Post : Option Value → Mm → Prop} {Φ : Int32 → Mm → Prop} (hΦ : ∀ r M1, Φ r M1 → Post (some (.int r)) M1) : ∀ (M : Mm), D_R_copy_85 Φ M → WP (Ct (d + 2)) 140 Post (85, [some (.ref 39), none, none, none, none, none, none], [], M) := by
  intro M h
  replace h : S_R_found M 2 (fun r1 M1 => Φ r1 M1) := h
  refine WP.blk [(.aload_n 0, 1, (0, 0), .null), (.iconst 2, 1, (0, 0), .int 2)] (G := True) (c' := (87, [some (.ref 39), none, none, none, none, none, none], [.int 2, .ref 39], M)) (by decide +kernel) rfl trivial ?_
  refine WP.call (.invokevirtual 62, 3, (136, 2), .retAddr 7) (by decide +kernel) rfl (sp_R_found (d := d + 1) h (fun r1 M1 h => ?_))
  show WP (Ct (d + 2)) 140 Post (90, [some (.ref 39), none, none, none, none, none, none], [.int r1], M1)
  exact WP.ret (.ireturn, 1, (0, 0), .null) (rk := 1) (by decide +kernel) (by decide +kernel) rfl trivial (hΦ _ _ h)
set_option maxRecDepth 100000 in
set_option maxHeartbeats 4000000 in
theorem L_R_copy_35 {d : Nat} {Post : Option Value → Mm → Prop} {Φ : Int32 → Mm → Prop} (hΦ : ∀ r M1, Φ r M1 → Post (some (.int r)) M1) : ∀ (M : Mm), D_R_copy_35 Φ M → WP (Ct (d + 2)) 140 Post (35, [some (.ref 39), none, none, none, none, none, none], [], M) := by
  intro M h
  replace h : S_R_found M 1 (fun r1 M1 => Φ r1 M1) := h
  refine WP.blk [(.aload_n 0, 1, (0, 0), .null), (.iconst 1, 1, (0, 0), .int 1)] (G := True) (c' := (37, [some (.ref 39), none, none, none, none, none, none], [.int 1, .ref 39], M)) (by decide +kernel) rfl trivial ?_
  refine WP.call (.invokevirtual 62, 3, (136, 2), .retAddr 7) (by decide +kernel) rfl (sp_R_found (d := d + 1) h (fun r1 M1 h => ?_))
  show WP (Ct (d + 2)) 140 Post (40, [some (.ref 39), none, none, none, none, none, none], [.int r1], M1)
  exact WP.ret (.ireturn, 1, (0, 0), .null) (rk := 1) (by decide +kernel) (by decide +kernel) rfl trivial (hΦ _ _ h)
set_option maxRecDepth 100000 in
set_option maxHeartbeats 4000000 in
theorem sp_R_copy {d : Nat} {Post : Option Value → Mm → Prop} {M : Mm} {a1 : Int32} {a2 : Int32} {a3 : Int32} {a4 : Int32} {a5 : Int32} {Φ : Int32 → Mm → Prop} (h : S_R_copy M a1 a2 a3 a4 a5 Φ) (hΦ : ∀ r M1, Φ r M1 → Post (some (.int r)) M1) : Ct (d + 3) 140 [.ref 39, .int a1, .int a2, .int a3, .int a4, .int a5] M Post := by
  refine Ct.go (n := 7) (E := [some (.ref 39), some (.int a1), some (.int a2), some (.int a3), some (.int a4), some (.int a5), none]) (by decide +kernel) (by simp [Value.category]) rfl ?_
  refine WP.blk [(.iload_n 1, 1, (0, 0), .null)] (G := True) (c' := (1, [some (.ref 39), some (.int a1), some (.int a2), some (.int a3), some (.int a4), some (.int a5), none], [.int a1], M)) (by decide +kernel) rfl trivial ?_
  refine WP.call (.invokestatic 57, 3, (134, 1), .null) (by decide +kernel) rfl (sp_R_isRow (d := d + 0) h (fun r1 h => ?_))
  show WP (Ct (d + 2)) 140 Post (4, [some (.ref 39), some (.int a1), some (.int a2), some (.int a3), some (.int a4), some (.int a5), none], [.int r1], M)
  refine WP.br (.ifCond .eq 10, 3, (14, 0), .null) (by decide +kernel) rfl (fun c2 => ?_) (fun c2 => ?_)
  · replace h := h.1 c2
    refine WP.blk [(.ldc 61, 2, (0, 0), .int (-1000001))] (G := True) (c' := (16, [some (.ref 39), some (.int a1), some (.int a2), some (.int a3), some (.int a4), some (.int a5), none], [.int (-1000001)], M)) (by decide +kernel) rfl trivial ?_
    exact WP.ret (.ireturn, 1, (0, 0), .null) (rk := 1) (by decide +kernel) (by decide +kernel) rfl trivial (hΦ _ _ h)
  · replace h := h.2 c2
    refine WP.blk [(.iload_n 3, 1, (0, 0), .null)] (G := True) (c' := (8, [some (.ref 39), some (.int a1), some (.int a2), some (.int a3), some (.int a4), some (.int a5), none], [.int a3], M)) (by decide +kernel) rfl trivial ?_
    refine WP.call (.invokestatic 57, 3, (134, 1), .null) (by decide +kernel) rfl (sp_R_isRow (d := d + 0) h (fun r3 h => ?_))
    show WP (Ct (d + 2)) 140 Post (11, [some (.ref 39), some (.int a1), some (.int a2), some (.int a3), some (.int a4), some (.int a5), none], [.int r3], M)
    refine WP.br (.ifCond .ne 6, 3, (17, 0), .null) (by decide +kernel) rfl (fun c4 => ?_) (fun c4 => ?_)
    · replace h := h.2 c4
      refine WP.blk [(.aload_n 0, 1, (0, 0), .null), (.getfield 7, 3, (7, 0), .null), (.iload_n 1, 1, (0, 0), .null), (.iaload, 1, (0, 0), .null)] (G := vp_in a1 8 ∧ True) (c' := (23, [some (.ref 39), some (.int a1), some (.int a2), some (.int a3), some (.int a4), some (.int a5), none], [.int (M 40 (Int32.toNatClampNeg a1))], M)) (by decide +kernel) rfl ⟨h.1, trivial⟩ ?_
      replace h := h.2
      refine WP.br (.ifCond .lt 12, 3, (35, 0), .null) (by decide +kernel) rfl (fun c5 => ?_) (fun c5 => ?_)
      · replace h := h.1 c5
        refine WP.fgt [some (.ref 39), none, none, none, none, none, none] (by simp [fgt]) ?_
        exact L_R_copy_35 hΦ _ h
      · replace h := h.2 c5
        refine WP.blk [(.aload_n 0, 1, (0, 0), .null), (.getfield 7, 3, (7, 0), .null), (.iload_n 3, 1, (0, 0), .null), (.iaload, 1, (0, 0), .null)] (G := vp_in a3 8 ∧ True) (c' := (32, [some (.ref 39), some (.int a1), some (.int a2), some (.int a3), some (.int a4), some (.int a5), none], [.int (M 40 (Int32.toNatClampNeg a3))], M)) (by decide +kernel) rfl ⟨h.1, trivial⟩ ?_
        replace h := h.2
        refine WP.br (.ifCond .ge 9, 3, (41, 0), .null) (by decide +kernel) rfl (fun c6 => ?_) (fun c6 => ?_)
        · replace h := h.1 c6
          refine WP.blk [(.aload_n 0, 1, (0, 0), .null), (.getfield 7, 3, (7, 0), .null), (.iload_n 1, 1, (0, 0), .null), (.iaload, 1, (0, 0), .null), (.aload_n 0, 1, (0, 0), .null), (.getfield 7, 3, (7, 0), .null), (.iload_n 3, 1, (0, 0), .null), (.iaload, 1, (0, 0), .null)] (G := vp_in a1 8 ∧ vp_in a3 8 ∧ True) (c' := (53, [some (.ref 39), some (.int a1), some (.int a2), some (.int a3), some (.int a4), some (.int a5), none], [.int (M 40 (Int32.toNatClampNeg a3)), .int (M 40 (Int32.toNatClampNeg a1))], M)) (by decide +kernel) rfl ⟨h.1, h.2.1, trivial⟩ ?_
          replace h := h.2.2
          refine WP.br (.if_icmp .eq 9, 3, (62, 0), .null) (by decide +kernel) rfl (fun c7 => ?_) (fun c7 => ?_)
          · replace h := h.1 c7
            refine WP.blk [(.aload_n 0, 1, (0, 0), .null), (.iload_n 1, 1, (0, 0), .null), (.iload_n 2, 1, (0, 0), .null), (.iload 5, 2, (0, 0), .null)] (G := True) (c' := (67, [some (.ref 39), some (.int a1), some (.int a2), some (.int a3), some (.int a4), some (.int a5), none], [.int a5, .int a2, .int a1, .ref 39], M)) (by decide +kernel) rfl trivial ?_
            refine WP.call (.invokevirtual 73, 3, (141, 4), .retAddr 7) (by decide +kernel) rfl (sp_R_areIn (d := d + 1) h (fun r8 h => ?_))
            show WP (Ct (d + 2)) 140 Post (70, [some (.ref 39), some (.int a1), some (.int a2), some (.int a3), some (.int a4), some (.int a5), none], [.int r8], M)
            refine WP.br (.ifCond .eq 15, 3, (85, 0), .null) (by decide +kernel) rfl (fun c9 => ?_) (fun c9 => ?_)
            · replace h := h.1 c9
              refine WP.fgt [some (.ref 39), none, none, none, none, none, none] (by simp [fgt]) ?_
              exact L_R_copy_85 hΦ _ h
            · replace h := h.2 c9
              refine WP.blk [(.aload_n 0, 1, (0, 0), .null), (.iload_n 3, 1, (0, 0), .null), (.iload 4, 2, (0, 0), .null), (.iload 5, 2, (0, 0), .null)] (G := True) (c' := (79, [some (.ref 39), some (.int a1), some (.int a2), some (.int a3), some (.int a4), some (.int a5), none], [.int a5, .int a4, .int a3, .ref 39], M)) (by decide +kernel) rfl trivial ?_
              refine WP.call (.invokevirtual 73, 3, (141, 4), .retAddr 7) (by decide +kernel) rfl (sp_R_areIn (d := d + 1) h (fun r10 h => ?_))
              show WP (Ct (d + 2)) 140 Post (82, [some (.ref 39), some (.int a1), some (.int a2), some (.int a3), some (.int a4), some (.int a5), none], [.int r10], M)
              refine WP.br (.ifCond .ne 9, 3, (91, 0), .null) (by decide +kernel) rfl (fun c11 => ?_) (fun c11 => ?_)
              · replace h := h.2 c11
                refine WP.blk [(.iconst 0, 1, (0, 0), .int 0), (.istore 6, 2, (0, 0), .null)] (G := True) (c' := (94, [some (.ref 39), some (.int a1), some (.int a2), some (.int a3), some (.int a4), some (.int a5), some (.int 0)], [], M)) (by decide +kernel) rfl trivial ?_
                obtain ⟨n, h⟩ := h
                exact P_R_copy_94 hΦ n _ _ _ _ _ _ _ h
              · replace h := h.1 (Classical.not_not.mp c11)
                refine WP.fgt [some (.ref 39), none, none, none, none, none, none] (by simp [fgt]) ?_
                exact L_R_copy_85 hΦ _ h
          · replace h := h.2 c7
            refine WP.blk [(.aload_n 0, 1, (0, 0), .null), (.iconst 5, 1, (0, 0), .int 5)] (G := True) (c' := (58, [some (.ref 39), some (.int a1), some (.int a2), some (.int a3), some (.int a4), some (.int a5), none], [.int 5, .ref 39], M)) (by decide +kernel) rfl trivial ?_
            refine WP.call (.invokevirtual 62, 3, (136, 2), .retAddr 7) (by decide +kernel) rfl (sp_R_found (d := d + 1) h (fun r12 M12 h => ?_))
            show WP (Ct (d + 2)) 140 Post (61, [some (.ref 39), some (.int a1), some (.int a2), some (.int a3), some (.int a4), some (.int a5), none], [.int r12], M12)
            exact WP.ret (.ireturn, 1, (0, 0), .null) (rk := 1) (by decide +kernel) (by decide +kernel) rfl trivial (hΦ _ _ h)
        · replace h := h.2 c6
          refine WP.fgt [some (.ref 39), none, none, none, none, none, none] (by simp [fgt]) ?_
          exact L_R_copy_35 hΦ _ h
    · replace h := h.1 (Classical.not_not.mp c4)
      refine WP.blk [(.ldc 61, 2, (0, 0), .int (-1000001))] (G := True) (c' := (16, [some (.ref 39), some (.int a1), some (.int a2), some (.int a3), some (.int a4), some (.int a5), none], [.int (-1000001)], M)) (by decide +kernel) rfl trivial ?_
      exact WP.ret (.ireturn, 1, (0, 0), .null) (rk := 1) (by decide +kernel) (by decide +kernel) rfl trivial (hΦ _ _ h)
/-- GearRoadModel.drop(I)I -/
def S_R_drop (M : Mm) (a1 : Int32) (Φ : Int32 → Mm → Prop) : Prop := S_R_isRow M a1 (fun r1 => ((r1 = 0 → Φ (-1000001) M) ∧ (¬ (r1 = 0) → vp_in a1 8 ∧ ((0 ≤ (M 40 (Int32.toNatClampNeg a1)) → vp_in a1 8 ∧ (∀ M4, M4 = mu M 40 (Int32.toNatClampNeg a1) (-1) → vp_in a1 8 ∧ S_R_well M4 (M4 41 (Int32.toNatClampNeg a1)) (fun r5 M5 => Φ r5 M5))) ∧ (¬ (0 ≤ (M 40 (Int32.toNatClampNeg a1))) → S_R_found M 1 (fun r6 M6 => Φ r6 M6))))))
set_option maxRecDepth 100000 in
set_option maxHeartbeats 4000000 in
theorem sp_R_drop {d : Nat} {Post : Option Value → Mm → Prop} {M : Mm} {a1 : Int32} {Φ : Int32 → Mm → Prop} (h : S_R_drop M a1 Φ) (hΦ : ∀ r M1, Φ r M1 → Post (some (.int r)) M1) : Ct (d + 3) 142 [.ref 39, .int a1] M Post := by
  refine Ct.go (n := 2) (E := [some (.ref 39), some (.int a1)]) (by decide +kernel) (by simp [Value.category]) rfl ?_
  refine WP.blk [(.iload_n 1, 1, (0, 0), .null)] (G := True) (c' := (1, [some (.ref 39), some (.int a1)], [.int a1], M)) (by decide +kernel) rfl trivial ?_
  refine WP.call (.invokestatic 57, 3, (134, 1), .null) (by decide +kernel) rfl (sp_R_isRow (d := d + 0) h (fun r1 h => ?_))
  show WP (Ct (d + 2)) 142 Post (4, [some (.ref 39), some (.int a1)], [.int r1], M)
  refine WP.br (.ifCond .ne 6, 3, (10, 0), .null) (by decide +kernel) rfl (fun c2 => ?_) (fun c2 => ?_)
  · replace h := h.2 c2
    refine WP.blk [(.aload_n 0, 1, (0, 0), .null), (.getfield 7, 3, (7, 0), .null), (.iload_n 1, 1, (0, 0), .null), (.iaload, 1, (0, 0), .null)] (G := vp_in a1 8 ∧ True) (c' := (16, [some (.ref 39), some (.int a1)], [.int (M 40 (Int32.toNatClampNeg a1))], M)) (by decide +kernel) rfl ⟨h.1, trivial⟩ ?_
    replace h := h.2
    refine WP.br (.ifCond .ge 9, 3, (25, 0), .null) (by decide +kernel) rfl (fun c3 => ?_) (fun c3 => ?_)
    · replace h := h.1 c3
      refine WP.blk [(.aload_n 0, 1, (0, 0), .null), (.getfield 7, 3, (7, 0), .null), (.iload_n 1, 1, (0, 0), .null), (.iconst (-1), 1, (0, 0), .int (-1)), (.iastore, 1, (0, 0), .null)] (G := vp_in a1 8 ∧ True) (c' := (32, [some (.ref 39), some (.int a1)], [], (mu M 40 (Int32.toNatClampNeg a1) (-1)))) (by decide +kernel) rfl ⟨h.1, trivial⟩ ?_
      replace h := h.2
      replace h := h (mu M 40 (Int32.toNatClampNeg a1) (-1)) rfl
      generalize (mu M 40 (Int32.toNatClampNeg a1) (-1)) = M4 at h ⊢
      refine WP.blk [(.aload_n 0, 1, (0, 0), .null), (.aload_n 0, 1, (0, 0), .null), (.getfield 13, 3, (7, 1), .null), (.iload_n 1, 1, (0, 0), .null), (.iaload, 1, (0, 0), .null)] (G := vp_in a1 8 ∧ True) (c' := (39, [some (.ref 39), some (.int a1)], [.int (M4 41 (Int32.toNatClampNeg a1)), .ref 39], M4)) (by decide +kernel) rfl ⟨h.1, trivial⟩ ?_
      replace h := h.2
      refine WP.call (.invokevirtual 66, 3, (137, 2), .retAddr 7) (by decide +kernel) rfl (sp_R_well (d := d + 1) h (fun r5 M5 h => ?_))
      show WP (Ct (d + 2)) 142 Post (42, [some (.ref 39), some (.int a1)], [.int r5], M5)
      exact WP.ret (.ireturn, 1, (0, 0), .null) (rk := 1) (by decide +kernel) (by decide +kernel) rfl trivial (hΦ _ _ h)
    · replace h := h.2 c3
      refine WP.blk [(.aload_n 0, 1, (0, 0), .null), (.iconst 1, 1, (0, 0), .int 1)] (G := True) (c' := (21, [some (.ref 39), some (.int a1)], [.int 1, .ref 39], M)) (by decide +kernel) rfl trivial ?_
      refine WP.call (.invokevirtual 62, 3, (136, 2), .retAddr 7) (by decide +kernel) rfl (sp_R_found (d := d + 1) h (fun r6 M6 h => ?_))
      show WP (Ct (d + 2)) 142 Post (24, [some (.ref 39), some (.int a1)], [.int r6], M6)
      exact WP.ret (.ireturn, 1, (0, 0), .null) (rk := 1) (by decide +kernel) (by decide +kernel) rfl trivial (hΦ _ _ h)
  · replace h := h.1 (Classical.not_not.mp c2)
    refine WP.blk [(.ldc 61, 2, (0, 0), .int (-1000001))] (G := True) (c' := (9, [some (.ref 39), some (.int a1)], [.int (-1000001)], M)) (by decide +kernel) rfl trivial ?_
    exact WP.ret (.ireturn, 1, (0, 0), .null) (rk := 1) (by decide +kernel) (by decide +kernel) rfl trivial (hΦ _ _ h)
/-- GearRoadModel.feed(I)I -/
def S_R_feed (M : Mm) (a1 : Int32) (Φ : Int32 → Mm → Prop) : Prop := S_R_in M a1 0 255 (fun r1 => ((r1 = 0 → Φ (-1000001) M) ∧ (¬ (r1 = 0) → (((M 39 13) = 80 → Φ (-1000003) M) ∧ (¬ ((M 39 13) = 80) → vp_in (M 39 13) 80 ∧ (∀ M4, M4 = mu M 49 (Int32.toNatClampNeg (M 39 13)) (vp_nar .byte (Int8.toInt32 (Int32.toInt8 a1))) → (∀ M5, M5 = mu M4 39 13 ((M4 39 13) + 1) → Φ (M5 39 13) M5)))))))
set_option maxRecDepth 100000 in
set_option maxHeartbeats 4000000 in
theorem sp_R_feed {d : Nat} {Post : Option Value → Mm → Prop} {M : Mm} {a1 : Int32} {Φ : Int32 → Mm → Prop} (h : S_R_feed M a1 Φ) (hΦ : ∀ r M1, Φ r M1 → Post (some (.int r)) M1) : Ct (d + 2) 143 [.ref 39, .int a1] M Post := by
  refine Ct.go (n := 2) (E := [some (.ref 39), some (.int a1)]) (by decide +kernel) (by simp [Value.category]) rfl ?_
  refine WP.blk [(.iload_n 1, 1, (0, 0), .null), (.iconst 0, 1, (0, 0), .int 0), (.sipush 255, 3, (0, 0), .int 255)] (G := True) (c' := (5, [some (.ref 39), some (.int a1)], [.int 255, .int 0, .int a1], M)) (by decide +kernel) rfl trivial ?_
  refine WP.call (.invokestatic 53, 3, (135, 3), .null) (by decide +kernel) rfl (sp_R_in (d := d + 0) h (fun r1 h => ?_))
  show WP (Ct (d + 1)) 143 Post (8, [some (.ref 39), some (.int a1)], [.int r1], M)
  refine WP.br (.ifCond .ne 6, 3, (14, 0), .null) (by decide +kernel) rfl (fun c2 => ?_) (fun c2 => ?_)
  · replace h := h.2 c2
    refine WP.blk [(.aload_n 0, 1, (0, 0), .null), (.getfield 87, 3, (7, 13), .null), (.bipush 80, 2, (0, 0), .int 80)] (G := True) (c' := (20, [some (.ref 39), some (.int a1)], [.int 80, .int (M 39 13)], M)) (by decide +kernel) rfl trivial ?_
    refine WP.br (.if_icmp .ne 6, 3, (26, 0), .null) (by decide +kernel) rfl (fun c3 => ?_) (fun c3 => ?_)
    · replace h := h.2 c3
      refine WP.blk [(.aload_n 0, 1, (0, 0), .null), (.getfield 38, 3, (7, 12), .null), (.aload_n 0, 1, (0, 0), .null), (.getfield 87, 3, (7, 13), .null), (.iload_n 1, 1, (0, 0), .null), (.i2b, 1, (0, 0), .null), (.bastore, 1, (0, 0), .null)] (G := vp_in (M 39 13) 80 ∧ True) (c' := (37, [some (.ref 39), some (.int a1)], [], (mu M 49 (Int32.toNatClampNeg (M 39 13)) (vp_nar .byte (Int8.toInt32 (Int32.toInt8 a1)))))) (by decide +kernel) rfl ⟨h.1, trivial⟩ ?_
      replace h := h.2
      replace h := h (mu M 49 (Int32.toNatClampNeg (M 39 13)) (vp_nar .byte (Int8.toInt32 (Int32.toInt8 a1)))) rfl
      generalize (mu M 49 (Int32.toNatClampNeg (M 39 13)) (vp_nar .byte (Int8.toInt32 (Int32.toInt8 a1)))) = M4 at h ⊢
      refine WP.blk [(.aload_n 0, 1, (0, 0), .null), (.dup, 1, (0, 0), .null), (.getfield 87, 3, (7, 13), .null), (.iconst 1, 1, (0, 0), .int 1), (.iadd, 1, (0, 0), .null), (.putfield 87, 3, (7, 13), .null)] (G := True) (c' := (47, [some (.ref 39), some (.int a1)], [], (mu M4 39 13 ((M4 39 13) + 1)))) (by decide +kernel) rfl trivial ?_
      replace h := h (mu M4 39 13 ((M4 39 13) + 1)) rfl
      generalize (mu M4 39 13 ((M4 39 13) + 1)) = M5 at h ⊢
      refine WP.blk [(.aload_n 0, 1, (0, 0), .null), (.getfield 87, 3, (7, 13), .null)] (G := True) (c' := (51, [some (.ref 39), some (.int a1)], [.int (M5 39 13)], M5)) (by decide +kernel) rfl trivial ?_
      exact WP.ret (.ireturn, 1, (0, 0), .null) (rk := 1) (by decide +kernel) (by decide +kernel) rfl trivial (hΦ _ _ h)
    · replace h := h.1 (Classical.not_not.mp c3)
      refine WP.blk [(.ldc 90, 2, (0, 0), .int (-1000003))] (G := True) (c' := (25, [some (.ref 39), some (.int a1)], [.int (-1000003)], M)) (by decide +kernel) rfl trivial ?_
      exact WP.ret (.ireturn, 1, (0, 0), .null) (rk := 1) (by decide +kernel) (by decide +kernel) rfl trivial (hΦ _ _ h)
  · replace h := h.1 (Classical.not_not.mp c2)
    refine WP.blk [(.ldc 61, 2, (0, 0), .int (-1000001))] (G := True) (c' := (13, [some (.ref 39), some (.int a1)], [.int (-1000001)], M)) (by decide +kernel) rfl trivial ?_
    exact WP.ret (.ireturn, 1, (0, 0), .null) (rk := 1) (by decide +kernel) (by decide +kernel) rfl trivial (hΦ _ _ h)
/-- GearRoadModel.here()I -/
def S_R_here (M : Mm) (Φ : Int32 → Prop) : Prop := (((M 39 13) ≤ (M 39 15) → Φ (-1)) ∧ (¬ ((M 39 13) ≤ (M 39 15)) → vp_in (M 39 15) 80 ∧ Φ ((M 49 (Int32.toNatClampNeg (M 39 15))) &&& 255)))
set_option maxRecDepth 100000 in
set_option maxHeartbeats 4000000 in
theorem sp_R_here {d : Nat} {Post : Option Value → Mm → Prop} {M : Mm} {Φ : Int32 → Prop} (h : S_R_here M Φ) (hΦ : ∀ r, Φ r → Post (some (.int r)) M) : Ct (d + 1) 146 [.ref 39] M Post := by
  refine Ct.go (n := 1) (E := [some (.ref 39)]) (by decide +kernel) (by simp [Value.category]) rfl ?_
  refine WP.blk [(.aload_n 0, 1, (0, 0), .null), (.getfield 91, 3, (7, 15), .null), (.aload_n 0, 1, (0, 0), .null), (.getfield 87, 3, (7, 13), .null)] (G := True) (c' := (8, [some (.ref 39)], [.int (M 39 13), .int (M 39 15)], M)) (by decide +kernel) rfl trivial ?_
  refine WP.br (.if_icmp .ge 19, 3, (27, 0), .null) (by decide +kernel) rfl (fun c1 => ?_) (fun c1 => ?_)
  · replace h := h.1 c1
    refine WP.blk [(.iconst (-1), 1, (0, 0), .int (-1))] (G := True) (c' := (28, [some (.ref 39)], [.int (-1)], M)) (by decide +kernel) rfl trivial ?_
    exact WP.ret (.ireturn, 1, (0, 0), .null) (rk := 1) (by decide +kernel) (by decide +kernel) rfl trivial (hΦ _ h)
  · replace h := h.2 c1
    refine WP.blk [(.aload_n 0, 1, (0, 0), .null), (.getfield 38, 3, (7, 12), .null), (.aload_n 0, 1, (0, 0), .null), (.getfield 91, 3, (7, 15), .null), (.baload, 1, (0, 0), .null), (.sipush 255, 3, (0, 0), .int 255), (.iand, 1, (0, 0), .null), (.goto 4, 3, (28, 0), .null)] (G := vp_in (M 39 15) 80 ∧ True) (c' := (28, [some (.ref 39)], [.int ((M 49 (Int32.toNatClampNeg (M 39 15))) &&& 255)], M)) (by decide +kernel) rfl ⟨h.1, trivial⟩ ?_
    replace h := h.2
    exact WP.ret (.ireturn, 1, (0, 0), .null) (rk := 1) (by decide +kernel) (by decide +kernel) rfl trivial (hΦ _ h)
/-- GearRoadModel.step()V -/
def D_R_step_174 (Φ : Mm → Prop) : Mm → Prop
  | M => (∀ M1, M1 = mu M 39 17 2 → Φ M1)
def D_R_step_116 (Φ : Mm → Prop) : Int32 × Int32 × Mm → Prop
  | (x1, x2, M) => (∀ M3, M3 = mu M 39 17 x2 → (∀ M4, M4 = mu M3 39 18 x1 → Φ M4))
def D_R_step_83 (Φ : Mm → Prop) (rec_47 : Int32 × Mm → Prop) : Int32 × Mm → Prop
  | (x1, M) => (∀ M2, M2 = mu M 39 15 ((M 39 15) + 1) → rec_47 (x1, M2))
def D_R_step_47 (Φ : Mm → Prop) (rec_47 : Int32 × Mm → Prop) : Int32 × Mm → Prop
  | (x1, M) => S_R_here M (fun r2 => S_R_in M r2 48 57 (fun r3 => ((r3 = 0 → ((((M 39 15) - (M 39 16)) ≤ 2 → D_R_step_116 Φ (x1, 1, M)) ∧ (¬ (((M 39 15) - (M 39 16)) ≤ 2) → D_R_step_116 Φ (x1, 4, M)))) ∧ (¬ (r3 = 0) → ((x1 ≤ 99 → S_R_here M (fun r7 => D_R_step_83 Φ rec_47 ((((10 * x1) + r7) - 48), M))) ∧ (¬ (x1 ≤ 99) → D_R_step_83 Φ rec_47 (x1, M)))))))
def S_R_step (M : Mm) (Φ : Mm → Prop) : Prop := (∀ M1, M1 = mu M 39 16 (M 39 15) → S_R_here M1 (fun r2 => (∀ M3, M3 = mu M1 39 18 r2 → ((0 ≤ (M3 39 18) → S_R_in M3 (M3 39 18) 48 57 (fun r5 => ((r5 = 0 → (∀ M7, M7 = mu M3 39 15 ((M3 39 15) + 1) → S_R_in M7 (M7 39 18) 97 122 (fun r8 => ((r8 = 0 → (((M7 39 18) = 59 → D_R_step_174 Φ M7) ∧ (¬ ((M7 39 18) = 59) → (((M7 39 18) = 44 → D_R_step_174 Φ M7) ∧ (¬ ((M7 39 18) = 44) → (∀ M12, M12 = mu M7 39 17 4 → Φ M12)))))) ∧ (¬ (r8 = 0) → (∀ M13, M13 = mu M7 39 17 0 → Φ M13)))))) ∧ (¬ (r5 = 0) → ∃ n, lp (D_R_step_47 Φ) n (0, M3))))) ∧ (¬ (0 ≤ (M3 39 18)) → (∀ M14, M14 = mu M3 39 17 3 → Φ M14))))))
set_option maxRecDepth 100000 in
set_option maxHeartbeats 4000000 in
theorem L_R_step_174 {d : Nat} {Post : Option Value → Mm → Prop} {Φ : Mm → Prop} (hΦ : ∀ M1, Φ M1 → Post none M1) : ∀ (M : Mm), D_R_step_174 Φ M → WP (Ct (d + 1)) 145 Post (174, [none, none], [.ref 39], M) := by
  intro M h
  replace h : (∀ M1, M1 = mu M 39 17 2 → Φ M1) := h
  refine WP.blk [(.iconst 2, 1, (0, 0), .int 2), (.goto 4, 3, (179, 0), .null), (.putfield 104, 3, (7, 17), .null)] (G := True) (c' := (182, [none, none], [], (mu M 39 17 2))) (by decide +kernel) rfl trivial ?_
  replace h := h (mu M 39 17 2) rfl
  generalize (mu M 39 17 2) = M1 at h ⊢
  exact WP.ret (.return_, 1, (0, 0), .null) (rk := 0) (by decide +kernel) (by decide +kernel) rfl trivial (hΦ _ h)
set_option maxRecDepth 100000 in
set_option maxHeartbeats 4000000 in
theorem L_R_step_116 {d : Nat} {Post : Option Value → Mm → Prop} {Φ : Mm → Prop} (hΦ : ∀ M1, Φ M1 → Post none M1) : ∀ (x1 : Int32) (x2 : Int32) (M : Mm), D_R_step_116 Φ (x1, x2, M) → WP (Ct (d + 1)) 145 Post (116, [some (.ref 39), some (.int x1)], [.int x2, .ref 39], M) := by
  intro x1 x2 M h
  replace h : (∀ M3, M3 = mu M 39 17 x2 → (∀ M4, M4 = mu M3 39 18 x1 → Φ M4)) := h
  refine WP.blk [(.putfield 104, 3, (7, 17), .null)] (G := True) (c' := (119, [some (.ref 39), some (.int x1)], [], (mu M 39 17 x2))) (by decide +kernel) rfl trivial ?_
  replace h := h (mu M 39 17 x2) rfl
  generalize (mu M 39 17 x2) = M3 at h ⊢
  refine WP.blk [(.aload_n 0, 1, (0, 0), .null), (.iload_n 1, 1, (0, 0), .null), (.putfield 101, 3, (7, 18), .null)] (G := True) (c' := (124, [some (.ref 39), some (.int x1)], [], (mu M3 39 18 x1))) (by decide +kernel) rfl trivial ?_
  replace h := h (mu M3 39 18 x1) rfl
  generalize (mu M3 39 18 x1) = M4 at h ⊢
  refine WP.blk [(.goto 58, 3, (182, 0), .null)] (G := True) (c' := (182, [some (.ref 39), some (.int x1)], [], M4)) (by decide +kernel) rfl trivial ?_
  exact WP.ret (.return_, 1, (0, 0), .null) (rk := 0) (by decide +kernel) (by decide +kernel) rfl trivial (hΦ _ h)
set_option maxRecDepth 100000 in
set_option maxHeartbeats 4000000 in
theorem L_R_step_83 {d : Nat} {Post : Option Value → Mm → Prop} {rec_47 : Int32 × Mm → Prop} {Φ : Mm → Prop} (hΦ : ∀ M1, Φ M1 → Post none M1) (hrec_47 : ∀ (x1 : Int32) (M : Mm), rec_47 (x1, M) → WP (Ct (d + 1)) 145 Post (47, [some (.ref 39), some (.int x1)], [], M)) : ∀ (x1 : Int32) (M : Mm), D_R_step_83 Φ rec_47 (x1, M) → WP (Ct (d + 1)) 145 Post (83, [some (.ref 39), none], [.int x1], M) := by
  intro x1 M h
  replace h : (∀ M2, M2 = mu M 39 15 ((M 39 15) + 1) → rec_47 (x1, M2)) := h
  refine WP.blk [(.istore_n 1, 1, (0, 0), .null), (.aload_n 0, 1, (0, 0), .null), (.dup, 1, (0, 0), .null), (.getfield 91, 3, (7, 15), .null), (.iconst 1, 1, (0, 0), .int 1), (.iadd, 1, (0, 0), .null), (.putfield 91, 3, (7, 15), .null)] (G := True) (c' := (94, [some (.ref 39), some (.int x1)], [], (mu M 39 15 ((M 39 15) + 1)))) (by decide +kernel) rfl trivial ?_
  replace h := h (mu M 39 15 ((M 39 15) + 1)) rfl
  generalize (mu M 39 15 ((M 39 15) + 1)) = M2 at h ⊢
  refine WP.blk [(.goto (-47), 3, (47, 0), .null)] (G := True) (c' := (47, [some (.ref 39), some (.int x1)], [], M2)) (by decide +kernel) rfl trivial ?_
  exact hrec_47 _ _ h
set_option maxRecDepth 100000 in
set_option maxHeartbeats 4000000 in
theorem L_R_step_47 {d : Nat} {Post : Option Value → Mm → Prop} {rec_47 : Int32 × Mm → Prop} {Φ : Mm → Prop} (hΦ : ∀ M1, Φ M1 → Post none M1) (hrec_47 : ∀ (x1 : Int32) (M : Mm), rec_47 (x1, M) → WP (Ct (d + 1)) 145 Post (47, [some (.ref 39), some (.int x1)], [], M)) : ∀ (x1 : Int32) (M : Mm), D_R_step_47 Φ rec_47 (x1, M) → WP (Ct (d + 1)) 145 Post (47, [some (.ref 39), some (.int x1)], [], M) := by
  intro x1 M h
  replace h : S_R_here M (fun r2 => S_R_in M r2 48 57 (fun r3 => ((r3 = 0 → ((((M 39 15) - (M 39 16)) ≤ 2 → D_R_step_116 Φ (x1, 1, M)) ∧ (¬ (((M 39 15) - (M 39 16)) ≤ 2) → D_R_step_116 Φ (x1, 4, M)))) ∧ (¬ (r3 = 0) → ((x1 ≤ 99 → S_R_here M (fun r7 => D_R_step_83 Φ rec_47 ((((10 * x1) + r7) - 48), M))) ∧ (¬ (x1 ≤ 99) → D_R_step_83 Φ rec_47 (x1, M))))))) := h
  refine WP.blk [(.aload_n 0, 1, (0, 0), .null)] (G := True) (c' := (48, [some (.ref 39), some (.int x1)], [.ref 39], M)) (by decide +kernel) rfl trivial ?_
  refine WP.call (.invokevirtual 97, 3, (146, 1), .retAddr 7) (by decide +kernel) rfl (sp_R_here (d := d + 0) h (fun r2 h => ?_))
  show WP (Ct (d + 1)) 145 Post (51, [some (.ref 39), some (.int x1)], [.int r2], M)
  refine WP.blk [(.bipush 48, 2, (0, 0), .int 48), (.bipush 57, 2, (0, 0), .int 57)] (G := True) (c' := (55, [some (.ref 39), some (.int x1)], [.int 57, .int 48, .int r2], M)) (by decide +kernel) rfl trivial ?_
  refine WP.call (.invokestatic 53, 3, (135, 3), .null) (by decide +kernel) rfl (sp_R_in (d := d + 0) h (fun r3 h => ?_))
  show WP (Ct (d + 1)) 145 Post (58, [some (.ref 39), some (.int x1)], [.int r3], M)
  refine WP.br (.ifCond .eq 39, 3, (97, 0), .null) (by decide +kernel) rfl (fun c4 => ?_) (fun c4 => ?_)
  · replace h := h.1 c4
    refine WP.blk [(.aload_n 0, 1, (0, 0), .null), (.aload_n 0, 1, (0, 0), .null), (.getfield 91, 3, (7, 15), .null), (.aload_n 0, 1, (0, 0), .null), (.getfield 94, 3, (7, 16), .null), (.isub, 1, (0, 0), .null), (.iconst 2, 1, (0, 0), .int 2)] (G := True) (c' := (108, [some (.ref 39), some (.int x1)], [.int 2, .int ((M 39 15) - (M 39 16)), .ref 39], M)) (by decide +kernel) rfl trivial ?_
    refine WP.br (.if_icmp .le 7, 3, (115, 0), .null) (by decide +kernel) rfl (fun c5 => ?_) (fun c5 => ?_)
    · replace h := h.1 c5
      refine WP.blk [(.iconst 1, 1, (0, 0), .int 1)] (G := True) (c' := (116, [some (.ref 39), some (.int x1)], [.int 1, .ref 39], M)) (by decide +kernel) rfl trivial ?_
      exact L_R_step_116 hΦ _ _ _ h
    · replace h := h.2 c5
      refine WP.blk [(.iconst 4, 1, (0, 0), .int 4), (.goto 4, 3, (116, 0), .null)] (G := True) (c' := (116, [some (.ref 39), some (.int x1)], [.int 4, .ref 39], M)) (by decide +kernel) rfl trivial ?_
      exact L_R_step_116 hΦ _ _ _ h
  · replace h := h.2 c4
    refine WP.blk [(.iload_n 1, 1, (0, 0), .null), (.bipush 99, 2, (0, 0), .int 99)] (G := True) (c' := (64, [some (.ref 39), some (.int x1)], [.int 99, .int x1], M)) (by decide +kernel) rfl trivial ?_
    refine WP.br (.if_icmp .le 7, 3, (71, 0), .null) (by decide +kernel) rfl (fun c6 => ?_) (fun c6 => ?_)
    · replace h := h.1 c6
      refine WP.blk [(.bipush 10, 2, (0, 0), .int 10), (.iload_n 1, 1, (0, 0), .null), (.imul, 1, (0, 0), .null), (.aload_n 0, 1, (0, 0), .null)] (G := True) (c' := (76, [some (.ref 39), some (.int x1)], [.ref 39, .int (10 * x1)], M)) (by decide +kernel) rfl trivial ?_
      refine WP.call (.invokevirtual 97, 3, (146, 1), .retAddr 7) (by decide +kernel) rfl (sp_R_here (d := d + 0) h (fun r7 h => ?_))
      show WP (Ct (d + 1)) 145 Post (79, [some (.ref 39), some (.int x1)], [.int r7, .int (10 * x1)], M)
      refine WP.blk [(.iadd, 1, (0, 0), .null), (.bipush 48, 2, (0, 0), .int 48), (.isub, 1, (0, 0), .null)] (G := True) (c' := (83, [some (.ref 39), some (.int x1)], [.int (((10 * x1) + r7) - 48)], M)) (by decide +kernel) rfl trivial ?_
      refine WP.fgt [some (.ref 39), none] (by simp [fgt]) ?_
      exact L_R_step_83 hΦ hrec_47 _ _ h
    · replace h := h.2 c6
      refine WP.blk [(.iload_n 1, 1, (0, 0), .null), (.goto 15, 3, (83, 0), .null)] (G := True) (c' := (83, [some (.ref 39), some (.int x1)], [.int x1], M)) (by decide +kernel) rfl trivial ?_
      refine WP.fgt [some (.ref 39), none] (by simp [fgt]) ?_
      exact L_R_step_83 hΦ hrec_47 _ _ h
theorem P_R_step_47 {d : Nat} {Post : Option Value → Mm → Prop} {Φ : Mm → Prop} (hΦ : ∀ M1, Φ M1 → Post none M1) : ∀ (n : Nat) (x1 : Int32) (M : Mm), lp (D_R_step_47 Φ) n (x1, M) → WP (Ct (d + 1)) 145 Post (47, [some (.ref 39), some (.int x1)], [], M)
  | 0, x1, M, h => absurd h (by simp [lp])
  | n + 1, x1, M, h => L_R_step_47 hΦ (P_R_step_47 hΦ n) x1 M h
set_option maxRecDepth 100000 in
set_option maxHeartbeats 4000000 in
theorem sp_R_step {d : Nat} {Post : Option Value → Mm → Prop} {M : Mm} {Φ : Mm → Prop} (h : S_R_step M Φ) (hΦ : ∀ M1, Φ M1 → Post none M1) : Ct (d + 2) 145 [.ref 39] M Post := by
  refine Ct.go (n := 2) (E := [some (.ref 39), none]) (by decide +kernel) (by simp [Value.category]) rfl ?_
  refine WP.blk [(.aload_n 0, 1, (0, 0), .null), (.aload_n 0, 1, (0, 0), .null), (.getfield 91, 3, (7, 15), .null), (.putfield 94, 3, (7, 16), .null)] (G := True) (c' := (8, [some (.ref 39), none], [], (mu M 39 16 (M 39 15)))) (by decide +kernel) rfl trivial ?_
  replace h := h (mu M 39 16 (M 39 15)) rfl
  generalize (mu M 39 16 (M 39 15)) = M1 at h ⊢
  refine WP.blk [(.aload_n 0, 1, (0, 0), .null), (.aload_n 0, 1, (0, 0), .null)] (G := True) (c' := (10, [some (.ref 39), none], [.ref 39, .ref 39], M1)) (by decide +kernel) rfl trivial ?_
  refine WP.call (.invokevirtual 97, 3, (146, 1), .retAddr 7) (by decide +kernel) rfl (sp_R_here (d := d + 0) h (fun r2 h => ?_))
  show WP (Ct (d + 1)) 145 Post (13, [some (.ref 39), none], [.int r2, .ref 39], M1)
  refine WP.blk [(.putfield 101, 3, (7, 18), .null)] (G := True) (c' := (16, [some (.ref 39), none], [], (mu M1 39 18 r2))) (by decide +kernel) rfl trivial ?_
  replace h := h (mu M1 39 18 r2) rfl
  generalize (mu M1 39 18 r2) = M3 at h ⊢
  refine WP.blk [(.aload_n 0, 1, (0, 0), .null), (.getfield 101, 3, (7, 18), .null)] (G := True) (c' := (20, [some (.ref 39), none], [.int (M3 39 18)], M3)) (by decide +kernel) rfl trivial ?_
  refine WP.br (.ifCond .ge 11, 3, (31, 0), .null) (by decide +kernel) rfl (fun c4 => ?_) (fun c4 => ?_)
  · replace h := h.1 c4
    refine WP.blk [(.aload_n 0, 1, (0, 0), .null), (.getfield 101, 3, (7, 18), .null), (.bipush 48, 2, (0, 0), .int 48), (.bipush 57, 2, (0, 0), .int 57)] (G := True) (c' := (39, [some (.ref 39), none], [.int 57, .int 48, .int (M3 39 18)], M3)) (by decide +kernel) rfl trivial ?_
    refine WP.call (.invokestatic 53, 3, (135, 3), .null) (by decide +kernel) rfl (sp_R_in (d := d + 0) h (fun r5 h => ?_))
    show WP (Ct (d + 1)) 145 Post (42, [some (.ref 39), none], [.int r5], M3)
    refine WP.br (.ifCond .eq 85, 3, (127, 0), .null) (by decide +kernel) rfl (fun c6 => ?_) (fun c6 => ?_)
    · replace h := h.1 c6
      refine WP.blk [(.aload_n 0, 1, (0, 0), .null), (.dup, 1, (0, 0), .null), (.getfield 91, 3, (7, 15), .null), (.iconst 1, 1, (0, 0), .int 1), (.iadd, 1, (0, 0), .null), (.putfield 91, 3, (7, 15), .null)] (G := True) (c' := (137, [some (.ref 39), none], [], (mu M3 39 15 ((M3 39 15) + 1)))) (by decide +kernel) rfl trivial ?_
      replace h := h (mu M3 39 15 ((M3 39 15) + 1)) rfl
      generalize (mu M3 39 15 ((M3 39 15) + 1)) = M7 at h ⊢
      refine WP.blk [(.aload_n 0, 1, (0, 0), .null), (.aload_n 0, 1, (0, 0), .null), (.getfield 101, 3, (7, 18), .null), (.bipush 97, 2, (0, 0), .int 97), (.bipush 122, 2, (0, 0), .int 122)] (G := True) (c' := (146, [some (.ref 39), none], [.int 122, .int 97, .int (M7 39 18), .ref 39], M7)) (by decide +kernel) rfl trivial ?_
      refine WP.call (.invokestatic 53, 3, (135, 3), .null) (by decide +kernel) rfl (sp_R_in (d := d + 0) h (fun r8 h => ?_))
      show WP (Ct (d + 1)) 145 Post (149, [some (.ref 39), none], [.int r8, .ref 39], M7)
      refine WP.br (.ifCond .eq 7, 3, (156, 0), .null) (by decide +kernel) rfl (fun c9 => ?_) (fun c9 => ?_)
      · replace h := h.1 c9
        refine WP.blk [(.aload_n 0, 1, (0, 0), .null), (.getfield 101, 3, (7, 18), .null), (.bipush 59, 2, (0, 0), .int 59)] (G := True) (c' := (162, [some (.ref 39), none], [.int 59, .int (M7 39 18), .ref 39], M7)) (by decide +kernel) rfl trivial ?_
        refine WP.br (.if_icmp .eq 12, 3, (174, 0), .null) (by decide +kernel) rfl (fun c10 => ?_) (fun c10 => ?_)
        · replace h := h.1 c10
          refine WP.fgt [none, none] (by simp [fgt]) ?_
          exact L_R_step_174 hΦ _ h
        · replace h := h.2 c10
          refine WP.blk [(.aload_n 0, 1, (0, 0), .null), (.getfield 101, 3, (7, 18), .null), (.bipush 44, 2, (0, 0), .int 44)] (G := True) (c' := (171, [some (.ref 39), none], [.int 44, .int (M7 39 18), .ref 39], M7)) (by decide +kernel) rfl trivial ?_
          refine WP.br (.if_icmp .ne 7, 3, (178, 0), .null) (by decide +kernel) rfl (fun c11 => ?_) (fun c11 => ?_)
          · replace h := h.2 c11
            refine WP.blk [(.iconst 4, 1, (0, 0), .int 4), (.putfield 104, 3, (7, 17), .null)] (G := True) (c' := (182, [some (.ref 39), none], [], (mu M7 39 17 4))) (by decide +kernel) rfl trivial ?_
            replace h := h (mu M7 39 17 4) rfl
            generalize (mu M7 39 17 4) = M12 at h ⊢
            exact WP.ret (.return_, 1, (0, 0), .null) (rk := 0) (by decide +kernel) (by decide +kernel) rfl trivial (hΦ _ h)
          · replace h := h.1 (Classical.not_not.mp c11)
            refine WP.fgt [none, none] (by simp [fgt]) ?_
            exact L_R_step_174 hΦ _ h
      · replace h := h.2 c9
        refine WP.blk [(.iconst 0, 1, (0, 0), .int 0), (.goto 26, 3, (179, 0), .null), (.putfield 104, 3, (7, 17), .null)] (G := True) (c' := (182, [some (.ref 39), none], [], (mu M7 39 17 0))) (by decide +kernel) rfl trivial ?_
        replace h := h (mu M7 39 17 0) rfl
        generalize (mu M7 39 17 0) = M13 at h ⊢
        exact WP.ret (.return_, 1, (0, 0), .null) (rk := 0) (by decide +kernel) (by decide +kernel) rfl trivial (hΦ _ h)
    · replace h := h.2 c6
      refine WP.blk [(.iconst 0, 1, (0, 0), .int 0), (.istore_n 1, 1, (0, 0), .null)] (G := True) (c' := (47, [some (.ref 39), some (.int 0)], [], M3)) (by decide +kernel) rfl trivial ?_
      obtain ⟨n, h⟩ := h
      exact P_R_step_47 hΦ n _ _ h
  · replace h := h.2 c4
    refine WP.blk [(.aload_n 0, 1, (0, 0), .null), (.iconst 3, 1, (0, 0), .int 3), (.putfield 104, 3, (7, 17), .null)] (G := True) (c' := (28, [some (.ref 39), none], [], (mu M3 39 17 3))) (by decide +kernel) rfl trivial ?_
    replace h := h (mu M3 39 17 3) rfl
    generalize (mu M3 39 17 3) = M14 at h ⊢
    refine WP.blk [(.goto 154, 3, (182, 0), .null)] (G := True) (c' := (182, [some (.ref 39), none], [], M14)) (by decide +kernel) rfl trivial ?_
    exact WP.ret (.return_, 1, (0, 0), .null) (rk := 0) (by decide +kernel) (by decide +kernel) rfl trivial (hΦ _ h)
/-- GearRoadModel.isLetter(I)Z -/
def S_R_isLetter (M : Mm) (a1 : Int32) (Φ : Int32 → Prop) : Prop := (((M 39 19) = 0 → (((M 39 17) = 0 → (((M 39 18) = a1 → Φ 1) ∧ (¬ ((M 39 18) = a1) → Φ 0))) ∧ (¬ ((M 39 17) = 0) → Φ 0))) ∧ (¬ ((M 39 19) = 0) → Φ 0))
set_option maxRecDepth 100000 in
set_option maxHeartbeats 4000000 in
theorem sp_R_isLetter {d : Nat} {Post : Option Value → Mm → Prop} {M : Mm} {a1 : Int32} {Φ : Int32 → Prop} (h : S_R_isLetter M a1 Φ) (hΦ : ∀ r, Φ r → Post (some (.int r)) M) : Ct (d + 1) 148 [.ref 39, .int a1] M Post := by
  refine Ct.go (n := 2) (E := [some (.ref 39), some (.int a1)]) (by decide +kernel) (by simp [Value.category]) rfl ?_
  refine WP.blk [(.aload_n 0, 1, (0, 0), .null), (.getfield 107, 3, (7, 19), .null)] (G := True) (c' := (4, [some (.ref 39), some (.int a1)], [.int (M 39 19)], M)) (by decide +kernel) rfl trivial ?_
  refine WP.br (.ifCond .ne 22, 3, (26, 0), .null) (by decide +kernel) rfl (fun c1 => ?_) (fun c1 => ?_)
  · replace h := h.2 c1
    refine WP.blk [(.iconst 0, 1, (0, 0), .int 0)] (G := True) (c' := (27, [some (.ref 39), some (.int a1)], [.int 0], M)) (by decide +kernel) rfl trivial ?_
    exact WP.ret (.ireturn, 1, (0, 0), .null) (rk := 2) (by decide +kernel) (by decide +kernel) rfl (by decide) (hΦ _ h)
  · replace h := h.1 (Classical.not_not.mp c1)
    refine WP.blk [(.aload_n 0, 1, (0, 0), .null), (.getfield 104, 3, (7, 17), .null)] (G := True) (c' := (11, [some (.ref 39), some (.int a1)], [.int (M 39 17)], M)) (by decide +kernel) rfl trivial ?_
    refine WP.br (.ifCond .ne 15, 3, (26, 0), .null) (by decide +kernel) rfl (fun c2 => ?_) (fun c2 => ?_)
    · replace h := h.2 c2
      refine WP.blk [(.iconst 0, 1, (0, 0), .int 0)] (G := True) (c' := (27, [some (.ref 39), some (.int a1)], [.int 0], M)) (by decide +kernel) rfl trivial ?_
      exact WP.ret (.ireturn, 1, (0, 0), .null) (rk := 2) (by decide +kernel) (by decide +kernel) rfl (by decide) (hΦ _ h)
    · replace h := h.1 (Classical.not_not.mp c2)
      refine WP.blk [(.aload_n 0, 1, (0, 0), .null), (.getfield 101, 3, (7, 18), .null), (.iload_n 1, 1, (0, 0), .null)] (G := True) (c' := (19, [some (.ref 39), some (.int a1)], [.int a1, .int (M 39 18)], M)) (by decide +kernel) rfl trivial ?_
      refine WP.br (.if_icmp .ne 7, 3, (26, 0), .null) (by decide +kernel) rfl (fun c3 => ?_) (fun c3 => ?_)
      · replace h := h.2 c3
        refine WP.blk [(.iconst 0, 1, (0, 0), .int 0)] (G := True) (c' := (27, [some (.ref 39), some (.int a1)], [.int 0], M)) (by decide +kernel) rfl trivial ?_
        exact WP.ret (.ireturn, 1, (0, 0), .null) (rk := 2) (by decide +kernel) (by decide +kernel) rfl (by decide) (hΦ _ h)
      · replace h := h.1 (Classical.not_not.mp c3)
        refine WP.blk [(.iconst 1, 1, (0, 0), .int 1), (.goto 4, 3, (27, 0), .null)] (G := True) (c' := (27, [some (.ref 39), some (.int a1)], [.int 1], M)) (by decide +kernel) rfl trivial ?_
        exact WP.ret (.ireturn, 1, (0, 0), .null) (rk := 2) (by decide +kernel) (by decide +kernel) rfl (by decide) (hΦ _ h)
/-- GearRoadModel.due(ZI)V -/
def S_R_due (M : Mm) (a1 : Int32) (a2 : Int32) (Φ : Mm → Prop) : Prop := (((M 39 19) = 0 → ((a1 = 0 → (∀ M3, M3 = mu M 39 19 a2 → Φ M3)) ∧ (¬ (a1 = 0) → S_R_step M (fun M4 => Φ M4)))) ∧ (¬ ((M 39 19) = 0) → Φ M))
set_option maxRecDepth 100000 in
set_option maxHeartbeats 4000000 in
theorem sp_R_due {d : Nat} {Post : Option Value → Mm → Prop} {M : Mm} {a1 : Int32} {a2 : Int32} {Φ : Mm → Prop} (h : S_R_due M a1 a2 Φ) (hΦ : ∀ M1, Φ M1 → Post none M1) : Ct (d + 3) 149 [.ref 39, .int a1, .int a2] M Post := by
  refine Ct.go (n := 3) (E := [some (.ref 39), some (.int a1), some (.int a2)]) (by decide +kernel) (by simp [Value.category]) rfl ?_
  refine WP.blk [(.aload_n 0, 1, (0, 0), .null), (.getfield 107, 3, (7, 19), .null)] (G := True) (c' := (4, [some (.ref 39), some (.int a1), some (.int a2)], [.int (M 39 19)], M)) (by decide +kernel) rfl trivial ?_
  refine WP.br (.ifCond .eq 4, 3, (8, 0), .null) (by decide +kernel) rfl (fun c1 => ?_) (fun c1 => ?_)
  · replace h := h.1 c1
    refine WP.blk [(.iload_n 1, 1, (0, 0), .null)] (G := True) (c' := (9, [some (.ref 39), some (.int a1), some (.int a2)], [.int a1], M)) (by decide +kernel) rfl trivial ?_
    refine WP.br (.ifCond .eq 10, 3, (19, 0), .null) (by decide +kernel) rfl (fun c2 => ?_) (fun c2 => ?_)
    · replace h := h.1 c2
      refine WP.blk [(.aload_n 0, 1, (0, 0), .null), (.iload_n 2, 1, (0, 0), .null), (.putfield 107, 3, (7, 19), .null)] (G := True) (c' := (24, [some (.ref 39), some (.int a1), some (.int a2)], [], (mu M 39 19 a2))) (by decide +kernel) rfl trivial ?_
      replace h := h (mu M 39 19 a2) rfl
      generalize (mu M 39 19 a2) = M3 at h ⊢
      exact WP.ret (.return_, 1, (0, 0), .null) (rk := 0) (by decide +kernel) (by decide +kernel) rfl trivial (hΦ _ h)
    · replace h := h.2 c2
      refine WP.blk [(.aload_n 0, 1, (0, 0), .null)] (G := True) (c' := (13, [some (.ref 39), some (.int a1), some (.int a2)], [.ref 39], M)) (by decide +kernel) rfl trivial ?_
      refine WP.call (.invokevirtual 110, 3, (145, 1), .retAddr 7) (by decide +kernel) rfl (sp_R_step (d := d + 0) h (fun M4 h => ?_))
      show WP (Ct (d + 2)) 149 Post (16, [some (.ref 39), some (.int a1), some (.int a2)], [], M4)
      refine WP.blk [(.goto 8, 3, (24, 0), .null)] (G := True) (c' := (24, [some (.ref 39), some (.int a1), some (.int a2)], [], M4)) (by decide +kernel) rfl trivial ?_
      exact WP.ret (.return_, 1, (0, 0), .null) (rk := 0) (by decide +kernel) (by decide +kernel) rfl trivial (hΦ _ h)
  · replace h := h.2 c1
    exact WP.ret (.return_, 1, (0, 0), .null) (rk := 0) (by decide +kernel) (by decide +kernel) rfl trivial (hΦ _ h)
/-- GearRoadModel.told(II)I -/
def D_R_told_59 (Φ : Int32 → Mm → Prop) : Int32 × Int32 × Mm → Prop
  | (x1, x2, M) => S_R_due M x2 1 (fun M3 => Φ x1 M3)
def D_R_told_58 (Φ : Int32 → Mm → Prop) : Int32 × Mm → Prop
  | (x1, M) => D_R_told_59 Φ (x1, 0, M)
def D_R_told_25 (Φ : Int32 → Mm → Prop) : Int32 × Int32 × Int32 × Mm → Prop
  | (x1, x2, x3, M) => S_R_in M x3 x1 x2 (fun r4 => S_R_due M r4 2 (fun M5 => (((M5 39 17) = 2 → (((M5 39 18) = 59 → D_R_told_59 Φ (x3, 1, M5)) ∧ (¬ ((M5 39 18) = 59) → D_R_told_58 Φ (x3, M5)))) ∧ (¬ ((M5 39 17) = 2) → D_R_told_58 Φ (x3, M5)))))
def S_R_told (M : Mm) (a1 : Int32) (a2 : Int32) (Φ : Int32 → Mm → Prop) : Prop := (((M 39 19) = 0 → (((M 39 17) = 1 → D_R_told_25 Φ (a1, a2, (M 39 18), M)) ∧ (¬ ((M 39 17) = 1) → (∀ M3, M3 = mu M 39 19 1 → D_R_told_25 Φ (a1, a2, (M 39 18), M3))))) ∧ (¬ ((M 39 19) = 0) → D_R_told_25 Φ (a1, a2, (M 39 18), M)))
set_option maxRecDepth 100000 in
set_option maxHeartbeats 4000000 in
theorem L_R_told_59 {d : Nat} {Post : Option Value → Mm → Prop} {Φ : Int32 → Mm → Prop} (hΦ : ∀ r M1, Φ r M1 → Post (some (.int r)) M1) : ∀ (x1 : Int32) (x2 : Int32) (M : Mm), D_R_told_59 Φ (x1, x2, M) → WP (Ct (d + 3)) 150 Post (59, [none, none, none, some (.int x1)], [.int x2, .ref 39], M) := by
  intro x1 x2 M h
  replace h : S_R_due M x2 1 (fun M3 => Φ x1 M3) := h
  refine WP.blk [(.iconst 1, 1, (0, 0), .int 1)] (G := True) (c' := (60, [none, none, none, some (.int x1)], [.int 1, .int x2, .ref 39], M)) (by decide +kernel) rfl trivial ?_
  refine WP.call (.invokevirtual 113, 3, (149, 3), .retAddr 7) (by decide +kernel) rfl (sp_R_due (d := d + 0) h (fun M3 h => ?_))
  show WP (Ct (d + 3)) 150 Post (63, [none, none, none, some (.int x1)], [], M3)
  refine WP.blk [(.iload_n 3, 1, (0, 0), .null)] (G := True) (c' := (64, [none, none, none, some (.int x1)], [.int x1], M3)) (by decide +kernel) rfl trivial ?_
  exact WP.ret (.ireturn, 1, (0, 0), .null) (rk := 1) (by decide +kernel) (by decide +kernel) rfl trivial (hΦ _ _ h)
set_option maxRecDepth 100000 in
set_option maxHeartbeats 4000000 in
theorem L_R_told_58 {d : Nat} {Post : Option Value → Mm → Prop} {Φ : Int32 → Mm → Prop} (hΦ : ∀ r M1, Φ r M1 → Post (some (.int r)) M1) : ∀ (x1 : Int32) (M : Mm), D_R_told_58 Φ (x1, M) → WP (Ct (d + 3)) 150 Post (58, [none, none, none, some (.int x1)], [.ref 39], M) := by
  intro x1 M h
  replace h : D_R_told_59 Φ (x1, 0, M) := h
  refine WP.blk [(.iconst 0, 1, (0, 0), .int 0)] (G := True) (c' := (59, [none, none, none, some (.int x1)], [.int 0, .ref 39], M)) (by decide +kernel) rfl trivial ?_
  exact L_R_told_59 hΦ _ _ _ h
set_option maxRecDepth 100000 in
set_option maxHeartbeats 4000000 in
theorem L_R_told_25 {d : Nat} {Post : Option Value → Mm → Prop} {Φ : Int32 → Mm → Prop} (hΦ : ∀ r M1, Φ r M1 → Post (some (.int r)) M1) : ∀ (x1 : Int32) (x2 : Int32) (x3 : Int32) (M : Mm), D_R_told_25 Φ (x1, x2, x3, M) → WP (Ct (d + 3)) 150 Post (25, [some (.ref 39), some (.int x1), some (.int x2), some (.int x3)], [], M) := by
  intro x1 x2 x3 M h
  replace h : S_R_in M x3 x1 x2 (fun r4 => S_R_due M r4 2 (fun M5 => (((M5 39 17) = 2 → (((M5 39 18) = 59 → D_R_told_59 Φ (x3, 1, M5)) ∧ (¬ ((M5 39 18) = 59) → D_R_told_58 Φ (x3, M5)))) ∧ (¬ ((M5 39 17) = 2) → D_R_told_58 Φ (x3, M5))))) := h
  refine WP.blk [(.aload_n 0, 1, (0, 0), .null), (.iload_n 3, 1, (0, 0), .null), (.iload_n 1, 1, (0, 0), .null), (.iload_n 2, 1, (0, 0), .null)] (G := True) (c' := (29, [some (.ref 39), some (.int x1), some (.int x2), some (.int x3)], [.int x2, .int x1, .int x3, .ref 39], M)) (by decide +kernel) rfl trivial ?_
  refine WP.call (.invokestatic 53, 3, (135, 3), .null) (by decide +kernel) rfl (sp_R_in (d := d + 2) h (fun r4 h => ?_))
  show WP (Ct (d + 3)) 150 Post (32, [some (.ref 39), some (.int x1), some (.int x2), some (.int x3)], [.int r4, .ref 39], M)
  refine WP.blk [(.iconst 2, 1, (0, 0), .int 2)] (G := True) (c' := (33, [some (.ref 39), some (.int x1), some (.int x2), some (.int x3)], [.int 2, .int r4, .ref 39], M)) (by decide +kernel) rfl trivial ?_
  refine WP.call (.invokevirtual 113, 3, (149, 3), .retAddr 7) (by decide +kernel) rfl (sp_R_due (d := d + 0) h (fun M5 h => ?_))
  show WP (Ct (d + 3)) 150 Post (36, [some (.ref 39), some (.int x1), some (.int x2), some (.int x3)], [], M5)
  refine WP.blk [(.aload_n 0, 1, (0, 0), .null), (.aload_n 0, 1, (0, 0), .null), (.getfield 104, 3, (7, 17), .null), (.iconst 2, 1, (0, 0), .int 2)] (G := True) (c' := (42, [some (.ref 39), some (.int x1), some (.int x2), some (.int x3)], [.int 2, .int (M5 39 17), .ref 39], M5)) (by decide +kernel) rfl trivial ?_
  refine WP.br (.if_icmp .ne 16, 3, (58, 0), .null) (by decide +kernel) rfl (fun c6 => ?_) (fun c6 => ?_)
  · replace h := h.2 c6
    refine WP.fgt [none, none, none, some (.int x3)] (by simp [fgt]) ?_
    exact L_R_told_58 hΦ _ _ h
  · replace h := h.1 (Classical.not_not.mp c6)
    refine WP.blk [(.aload_n 0, 1, (0, 0), .null), (.getfield 101, 3, (7, 18), .null), (.bipush 59, 2, (0, 0), .int 59)] (G := True) (c' := (51, [some (.ref 39), some (.int x1), some (.int x2), some (.int x3)], [.int 59, .int (M5 39 18), .ref 39], M5)) (by decide +kernel) rfl trivial ?_
    refine WP.br (.if_icmp .ne 7, 3, (58, 0), .null) (by decide +kernel) rfl (fun c7 => ?_) (fun c7 => ?_)
    · replace h := h.2 c7
      refine WP.fgt [none, none, none, some (.int x3)] (by simp [fgt]) ?_
      exact L_R_told_58 hΦ _ _ h
    · replace h := h.1 (Classical.not_not.mp c7)
      refine WP.blk [(.iconst 1, 1, (0, 0), .int 1), (.goto 4, 3, (59, 0), .null)] (G := True) (c' := (59, [some (.ref 39), some (.int x1), some (.int x2), some (.int x3)], [.int 1, .ref 39], M5)) (by decide +kernel) rfl trivial ?_
      refine WP.fgt [none, none, none, some (.int x3)] (by simp [fgt]) ?_
      exact L_R_told_59 hΦ _ _ _ h
set_option maxRecDepth 100000 in
set_option maxHeartbeats 4000000 in
theorem sp_R_told {d : Nat} {Post : Option Value → Mm → Prop} {M : Mm} {a1 : Int32} {a2 : Int32} {Φ : Int32 → Mm → Prop} (h : S_R_told M a1 a2 Φ) (hΦ : ∀ r M1, Φ r M1 → Post (some (.int r)) M1) : Ct (d + 4) 150 [.ref 39, .int a1, .int a2] M Post := by
  refine Ct.go (n := 4) (E := [some (.ref 39), some (.int a1), some (.int a2), none]) (by decide +kernel) (by simp [Value.category]) rfl ?_
  refine WP.blk [(.aload_n 0, 1, (0, 0), .null), (.getfield 101, 3, (7, 18), .null), (.istore_n 3, 1, (0, 0), .null), (.aload_n 0, 1, (0, 0), .null), (.getfield 107, 3, (7, 19), .null)] (G := True) (c' := (9, [some (.ref 39), some (.int a1), some (.int a2), some (.int (M 39 18))], [.int (M 39 19)], M)) (by decide +kernel) rfl trivial ?_
  refine WP.br (.ifCond .ne 16, 3, (25, 0), .null) (by decide +kernel) rfl (fun c1 => ?_) (fun c1 => ?_)
  · replace h := h.2 c1
    exact L_R_told_25 hΦ _ _ _ _ h
  · replace h := h.1 (Classical.not_not.mp c1)
    refine WP.blk [(.aload_n 0, 1, (0, 0), .null), (.getfield 104, 3, (7, 17), .null), (.iconst 1, 1, (0, 0), .int 1)] (G := True) (c' := (17, [some (.ref 39), some (.int a1), some (.int a2), some (.int (M 39 18))], [.int 1, .int (M 39 17)], M)) (by decide +kernel) rfl trivial ?_
    refine WP.br (.if_icmp .eq 8, 3, (25, 0), .null) (by decide +kernel) rfl (fun c2 => ?_) (fun c2 => ?_)
    · replace h := h.1 c2
      exact L_R_told_25 hΦ _ _ _ _ h
    · replace h := h.2 c2
      refine WP.blk [(.aload_n 0, 1, (0, 0), .null), (.iconst 1, 1, (0, 0), .int 1), (.putfield 107, 3, (7, 19), .null)] (G := True) (c' := (25, [some (.ref 39), some (.int a1), some (.int a2), some (.int (M 39 18))], [], (mu M 39 19 1))) (by decide +kernel) rfl trivial ?_
      replace h := h (mu M 39 19 1) rfl
      generalize (mu M 39 19 1) = M3 at h ⊢
      exact L_R_told_25 hΦ _ _ _ _ h
/-- GearRoadModel.readLaw()V -/
def S_R_readLaw (M : Mm) (Φ : Mm → Prop) : Prop := S_R_isLetter M 98 (fun r1 => S_R_due M r1 1 (fun M2 => S_R_told M2 1 99 (fun r3 M3 => (∀ M4, M4 = mu M3 45 (Int32.toNatClampNeg 0) r3 → Φ M4))))
set_option maxRecDepth 100000 in
set_option maxHeartbeats 4000000 in
theorem sp_R_readLaw {d : Nat} {Post : Option Value → Mm → Prop} {M : Mm} {Φ : Mm → Prop} (h : S_R_readLaw M Φ) (hΦ : ∀ M1, Φ M1 → Post none M1) : Ct (d + 5) 147 [.ref 39] M Post := by
  refine Ct.go (n := 1) (E := [some (.ref 39)]) (by decide +kernel) (by simp [Value.category]) rfl ?_
  refine WP.blk [(.aload_n 0, 1, (0, 0), .null), (.aload_n 0, 1, (0, 0), .null), (.bipush 98, 2, (0, 0), .int 98)] (G := True) (c' := (4, [some (.ref 39)], [.int 98, .ref 39, .ref 39], M)) (by decide +kernel) rfl trivial ?_
  refine WP.call (.invokevirtual 117, 3, (148, 2), .retAddr 7) (by decide +kernel) rfl (sp_R_isLetter (d := d + 3) h (fun r1 h => ?_))
  show WP (Ct (d + 4)) 147 Post (7, [some (.ref 39)], [.int r1, .ref 39], M)
  refine WP.blk [(.iconst 1, 1, (0, 0), .int 1)] (G := True) (c' := (8, [some (.ref 39)], [.int 1, .int r1, .ref 39], M)) (by decide +kernel) rfl trivial ?_
  refine WP.call (.invokevirtual 113, 3, (149, 3), .retAddr 7) (by decide +kernel) rfl (sp_R_due (d := d + 1) h (fun M2 h => ?_))
  show WP (Ct (d + 4)) 147 Post (11, [some (.ref 39)], [], M2)
  refine WP.blk [(.aload_n 0, 1, (0, 0), .null), (.getfield 25, 3, (7, 7), .null), (.iconst 0, 1, (0, 0), .int 0), (.aload_n 0, 1, (0, 0), .null), (.iconst 1, 1, (0, 0), .int 1), (.bipush 99, 2, (0, 0), .int 99)] (G := True) (c' := (20, [some (.ref 39)], [.int 99, .int 1, .ref 39, .int 0, .ref 45], M2)) (by decide +kernel) rfl trivial ?_
  refine WP.call (.invokevirtual 140, 3, (150, 3), .retAddr 7) (by decide +kernel) rfl (sp_R_told (d := d + 0) h (fun r3 M3 h => ?_))
  show WP (Ct (d + 4)) 147 Post (23, [some (.ref 39)], [.int r3, .int 0, .ref 45], M3)
  refine WP.blk [(.iastore, 1, (0, 0), .null)] (G := vp_in 0 35 ∧ True) (c' := (24, [some (.ref 39)], [], (mu M3 45 (Int32.toNatClampNeg 0) r3))) (by decide +kernel) rfl ⟨(vp_lit (by decide)), trivial⟩ ?_
  replace h := h (mu M3 45 (Int32.toNatClampNeg 0) r3) rfl
  generalize (mu M3 45 (Int32.toNatClampNeg 0) r3) = M4 at h ⊢
  exact WP.ret (.return_, 1, (0, 0), .null) (rk := 0) (by decide +kernel) (by decide +kernel) rfl trivial (hΦ _ h)
/-- GearRoadModel.readRings()V -/
def D_R_readRings_100 (Φ : Mm → Prop) (rec_0 : Mm → Prop) : Mm → Prop
  | M => rec_0 M
def D_R_readRings_55 (Φ : Mm → Prop) (rec_0 : Mm → Prop) : Int32 × Mm → Prop
  | (x1, M) => S_R_due M x1 3 (fun M2 => S_R_told M2 20 60 (fun r3 M3 => (((M3 39 19) = 0 → vp_in (8 + (M3 45 (Int32.toNatClampNeg 1))) 35 ∧ (∀ M5, M5 = mu M3 45 (Int32.toNatClampNeg (8 + (M3 45 (Int32.toNatClampNeg 1)))) r3 → (∀ M6, M6 = mu M5 45 (Int32.toNatClampNeg 1) ((M5 45 (Int32.toNatClampNeg 1)) + 1) → D_R_readRings_100 Φ rec_0 M6))) ∧ (¬ ((M3 39 19) = 0) → D_R_readRings_100 Φ rec_0 M3))))
def D_R_readRings_39 (Φ : Mm → Prop) (rec_0 : Mm → Prop) : Mm → Prop
  | M => ((3 ≤ (M 45 (Int32.toNatClampNeg 1)) → D_R_readRings_55 Φ rec_0 (0, M)) ∧ (¬ (3 ≤ (M 45 (Int32.toNatClampNeg 1))) → D_R_readRings_55 Φ rec_0 (1, M)))
def D_R_readRings_25 (Φ : Mm → Prop) (rec_0 : Mm → Prop) : Mm → Prop
  | M => S_R_isLetter M 107 (fun r1 => ((r1 = 0 → (∀ M3, M3 = mu M 39 19 1 → D_R_readRings_39 Φ rec_0 M3)) ∧ (¬ (r1 = 0) → D_R_readRings_39 Φ rec_0 M)))
def D_R_readRings_0 (Φ : Mm → Prop) (rec_0 : Mm → Prop) : Mm → Prop
  | M => (((M 39 19) = 0 → (((M 45 (Int32.toNatClampNeg 1)) = 0 → D_R_readRings_25 Φ rec_0 M) ∧ (¬ ((M 45 (Int32.toNatClampNeg 1)) = 0) → S_R_isLetter M 107 (fun r3 => ((r3 = 0 → Φ M) ∧ (¬ (r3 = 0) → D_R_readRings_25 Φ rec_0 M)))))) ∧ (¬ ((M 39 19) = 0) → Φ M))
def S_R_readRings (M : Mm) (Φ : Mm → Prop) : Prop := ∃ n, lp (D_R_readRings_0 Φ) n M
set_option maxRecDepth 100000 in
set_option maxHeartbeats 4000000 in
theorem L_R_readRings_100 {d : Nat} {Post : Option Value → Mm → Prop} {rec_0 : Mm → Prop} {Φ : Mm → Prop} (hΦ : ∀ M1, Φ M1 → Post none M1) (hrec_0 : ∀ (M : Mm), rec_0 M → WP (Ct (d + 4)) 151 Post (0, [some (.ref 39), none], [], M)) : ∀ (M : Mm), D_R_readRings_100 Φ rec_0 M → WP (Ct (d + 4)) 151 Post (100, [some (.ref 39), none], [], M) := by
  intro M h
  replace h : rec_0 M := h
  refine WP.blk [(.goto (-100), 3, (0, 0), .null)] (G := True) (c' := (0, [some (.ref 39), none], [], M)) (by decide +kernel) rfl trivial ?_
  exact hrec_0 _ h
set_option maxRecDepth 100000 in
set_option maxHeartbeats 4000000 in
theorem L_R_readRings_55 {d : Nat} {Post : Option Value → Mm → Prop} {rec_0 : Mm → Prop} {Φ : Mm → Prop} (hΦ : ∀ M1, Φ M1 → Post none M1) (hrec_0 : ∀ (M : Mm), rec_0 M → WP (Ct (d + 4)) 151 Post (0, [some (.ref 39), none], [], M)) : ∀ (x1 : Int32) (M : Mm), D_R_readRings_55 Φ rec_0 (x1, M) → WP (Ct (d + 4)) 151 Post (55, [some (.ref 39), none], [.int x1, .ref 39], M) := by
  intro x1 M h
  replace h : S_R_due M x1 3 (fun M2 => S_R_told M2 20 60 (fun r3 M3 => (((M3 39 19) = 0 → vp_in (8 + (M3 45 (Int32.toNatClampNeg 1))) 35 ∧ (∀ M5, M5 = mu M3 45 (Int32.toNatClampNeg (8 + (M3 45 (Int32.toNatClampNeg 1)))) r3 → (∀ M6, M6 = mu M5 45 (Int32.toNatClampNeg 1) ((M5 45 (Int32.toNatClampNeg 1)) + 1) → D_R_readRings_100 Φ rec_0 M6))) ∧ (¬ ((M3 39 19) = 0) → D_R_readRings_100 Φ rec_0 M3)))) := h
  refine WP.blk [(.iconst 3, 1, (0, 0), .int 3)] (G := True) (c' := (56, [some (.ref 39), none], [.int 3, .int x1, .ref 39], M)) (by decide +kernel) rfl trivial ?_
  refine WP.call (.invokevirtual 113, 3, (149, 3), .retAddr 7) (by decide +kernel) rfl (sp_R_due (d := d + 1) h (fun M2 h => ?_))
  show WP (Ct (d + 4)) 151 Post (59, [some (.ref 39), none], [], M2)
  refine WP.blk [(.aload_n 0, 1, (0, 0), .null), (.bipush 20, 2, (0, 0), .int 20), (.bipush 60, 2, (0, 0), .int 60)] (G := True) (c' := (64, [some (.ref 39), none], [.int 60, .int 20, .ref 39], M2)) (by decide +kernel) rfl trivial ?_
  refine WP.call (.invokevirtual 140, 3, (150, 3), .retAddr 7) (by decide +kernel) rfl (sp_R_told (d := d + 0) h (fun r3 M3 h => ?_))
  show WP (Ct (d + 4)) 151 Post (67, [some (.ref 39), none], [.int r3], M3)
  refine WP.blk [(.istore_n 1, 1, (0, 0), .null), (.aload_n 0, 1, (0, 0), .null), (.getfield 107, 3, (7, 19), .null)] (G := True) (c' := (72, [some (.ref 39), some (.int r3)], [.int (M3 39 19)], M3)) (by decide +kernel) rfl trivial ?_
  refine WP.br (.ifCond .ne 28, 3, (100, 0), .null) (by decide +kernel) rfl (fun c4 => ?_) (fun c4 => ?_)
  · replace h := h.2 c4
    refine WP.fgt [some (.ref 39), none] (by simp [fgt]) ?_
    exact L_R_readRings_100 hΦ hrec_0 _ h
  · replace h := h.1 (Classical.not_not.mp c4)
    refine WP.blk [(.aload_n 0, 1, (0, 0), .null), (.getfield 25, 3, (7, 7), .null), (.bipush 8, 2, (0, 0), .int 8), (.aload_n 0, 1, (0, 0), .null), (.getfield 25, 3, (7, 7), .null), (.iconst 1, 1, (0, 0), .int 1), (.iaload, 1, (0, 0), .null), (.iadd, 1, (0, 0), .null), (.iload_n 1, 1, (0, 0), .null), (.iastore, 1, (0, 0), .null)] (G := vp_in 1 35 ∧ vp_in (8 + (M3 45 (Int32.toNatClampNeg 1))) 35 ∧ True) (c' := (90, [some (.ref 39), some (.int r3)], [], (mu M3 45 (Int32.toNatClampNeg (8 + (M3 45 (Int32.toNatClampNeg 1)))) r3))) (by decide +kernel) rfl ⟨(vp_lit (by decide)), h.1, trivial⟩ ?_
    replace h := h.2
    replace h := h (mu M3 45 (Int32.toNatClampNeg (8 + (M3 45 (Int32.toNatClampNeg 1)))) r3) rfl
    generalize (mu M3 45 (Int32.toNatClampNeg (8 + (M3 45 (Int32.toNatClampNeg 1)))) r3) = M5 at h ⊢
    refine WP.blk [(.aload_n 0, 1, (0, 0), .null), (.getfield 25, 3, (7, 7), .null), (.iconst 1, 1, (0, 0), .int 1), (.dup2, 1, (0, 0), .null), (.iaload, 1, (0, 0), .null), (.iconst 1, 1, (0, 0), .int 1), (.iadd, 1, (0, 0), .null), (.iastore, 1, (0, 0), .null)] (G := vp_in 1 35 ∧ vp_in 1 35 ∧ True) (c' := (100, [some (.ref 39), some (.int r3)], [], (mu M5 45 (Int32.toNatClampNeg 1) ((M5 45 (Int32.toNatClampNeg 1)) + 1)))) (by decide +kernel) rfl ⟨(vp_lit (by decide)), (vp_lit (by decide)), trivial⟩ ?_
    replace h := h (mu M5 45 (Int32.toNatClampNeg 1) ((M5 45 (Int32.toNatClampNeg 1)) + 1)) rfl
    generalize (mu M5 45 (Int32.toNatClampNeg 1) ((M5 45 (Int32.toNatClampNeg 1)) + 1)) = M6 at h ⊢
    refine WP.fgt [some (.ref 39), none] (by simp [fgt]) ?_
    exact L_R_readRings_100 hΦ hrec_0 _ h
set_option maxRecDepth 100000 in
set_option maxHeartbeats 4000000 in
theorem L_R_readRings_39 {d : Nat} {Post : Option Value → Mm → Prop} {rec_0 : Mm → Prop} {Φ : Mm → Prop} (hΦ : ∀ M1, Φ M1 → Post none M1) (hrec_0 : ∀ (M : Mm), rec_0 M → WP (Ct (d + 4)) 151 Post (0, [some (.ref 39), none], [], M)) : ∀ (M : Mm), D_R_readRings_39 Φ rec_0 M → WP (Ct (d + 4)) 151 Post (39, [some (.ref 39), none], [], M) := by
  intro M h
  replace h : ((3 ≤ (M 45 (Int32.toNatClampNeg 1)) → D_R_readRings_55 Φ rec_0 (0, M)) ∧ (¬ (3 ≤ (M 45 (Int32.toNatClampNeg 1))) → D_R_readRings_55 Φ rec_0 (1, M))) := h
  refine WP.blk [(.aload_n 0, 1, (0, 0), .null), (.aload_n 0, 1, (0, 0), .null), (.getfield 25, 3, (7, 7), .null), (.iconst 1, 1, (0, 0), .int 1), (.iaload, 1, (0, 0), .null), (.iconst 3, 1, (0, 0), .int 3)] (G := vp_in 1 35 ∧ True) (c' := (47, [some (.ref 39), none], [.int 3, .int (M 45 (Int32.toNatClampNeg 1)), .ref 39], M)) (by decide +kernel) rfl ⟨(vp_lit (by decide)), trivial⟩ ?_
  refine WP.br (.if_icmp .ge 7, 3, (54, 0), .null) (by decide +kernel) rfl (fun c1 => ?_) (fun c1 => ?_)
  · replace h := h.1 c1
    refine WP.blk [(.iconst 0, 1, (0, 0), .int 0)] (G := True) (c' := (55, [some (.ref 39), none], [.int 0, .ref 39], M)) (by decide +kernel) rfl trivial ?_
    exact L_R_readRings_55 hΦ hrec_0 _ _ h
  · replace h := h.2 c1
    refine WP.blk [(.iconst 1, 1, (0, 0), .int 1), (.goto 4, 3, (55, 0), .null)] (G := True) (c' := (55, [some (.ref 39), none], [.int 1, .ref 39], M)) (by decide +kernel) rfl trivial ?_
    exact L_R_readRings_55 hΦ hrec_0 _ _ h
set_option maxRecDepth 100000 in
set_option maxHeartbeats 4000000 in
theorem L_R_readRings_25 {d : Nat} {Post : Option Value → Mm → Prop} {rec_0 : Mm → Prop} {Φ : Mm → Prop} (hΦ : ∀ M1, Φ M1 → Post none M1) (hrec_0 : ∀ (M : Mm), rec_0 M → WP (Ct (d + 4)) 151 Post (0, [some (.ref 39), none], [], M)) : ∀ (M : Mm), D_R_readRings_25 Φ rec_0 M → WP (Ct (d + 4)) 151 Post (25, [some (.ref 39), none], [], M) := by
  intro M h
  replace h : S_R_isLetter M 107 (fun r1 => ((r1 = 0 → (∀ M3, M3 = mu M 39 19 1 → D_R_readRings_39 Φ rec_0 M3)) ∧ (¬ (r1 = 0) → D_R_readRings_39 Φ rec_0 M))) := h
  refine WP.blk [(.aload_n 0, 1, (0, 0), .null), (.bipush 107, 2, (0, 0), .int 107)] (G := True) (c' := (28, [some (.ref 39), none], [.int 107, .ref 39], M)) (by decide +kernel) rfl trivial ?_
  refine WP.call (.invokevirtual 117, 3, (148, 2), .retAddr 7) (by decide +kernel) rfl (sp_R_isLetter (d := d + 3) h (fun r1 h => ?_))
  show WP (Ct (d + 4)) 151 Post (31, [some (.ref 39), none], [.int r1], M)
  refine WP.br (.ifCond .ne 8, 3, (39, 0), .null) (by decide +kernel) rfl (fun c2 => ?_) (fun c2 => ?_)
  · replace h := h.2 c2
    exact L_R_readRings_39 hΦ hrec_0 _ h
  · replace h := h.1 (Classical.not_not.mp c2)
    refine WP.blk [(.aload_n 0, 1, (0, 0), .null), (.iconst 1, 1, (0, 0), .int 1), (.putfield 107, 3, (7, 19), .null)] (G := True) (c' := (39, [some (.ref 39), none], [], (mu M 39 19 1))) (by decide +kernel) rfl trivial ?_
    replace h := h (mu M 39 19 1) rfl
    generalize (mu M 39 19 1) = M3 at h ⊢
    exact L_R_readRings_39 hΦ hrec_0 _ h
set_option maxRecDepth 100000 in
set_option maxHeartbeats 4000000 in
theorem L_R_readRings_0 {d : Nat} {Post : Option Value → Mm → Prop} {rec_0 : Mm → Prop} {Φ : Mm → Prop} (hΦ : ∀ M1, Φ M1 → Post none M1) (hrec_0 : ∀ (M : Mm), rec_0 M → WP (Ct (d + 4)) 151 Post (0, [some (.ref 39), none], [], M)) : ∀ (M : Mm), D_R_readRings_0 Φ rec_0 M → WP (Ct (d + 4)) 151 Post (0, [some (.ref 39), none], [], M) := by
  intro M h
  replace h : (((M 39 19) = 0 → (((M 45 (Int32.toNatClampNeg 1)) = 0 → D_R_readRings_25 Φ rec_0 M) ∧ (¬ ((M 45 (Int32.toNatClampNeg 1)) = 0) → S_R_isLetter M 107 (fun r3 => ((r3 = 0 → Φ M) ∧ (¬ (r3 = 0) → D_R_readRings_25 Φ rec_0 M)))))) ∧ (¬ ((M 39 19) = 0) → Φ M)) := h
  refine WP.blk [(.aload_n 0, 1, (0, 0), .null), (.getfield 107, 3, (7, 19), .null)] (G := True) (c' := (4, [some (.ref 39), none], [.int (M 39 19)], M)) (by decide +kernel) rfl trivial ?_
  refine WP.br (.ifCond .ne 99, 3, (103, 0), .null) (by decide +kernel) rfl (fun c1 => ?_) (fun c1 => ?_)
  · replace h := h.2 c1
    exact WP.ret (.return_, 1, (0, 0), .null) (rk := 0) (by decide +kernel) (by decide +kernel) rfl trivial (hΦ _ h)
  · replace h := h.1 (Classical.not_not.mp c1)
    refine WP.blk [(.aload_n 0, 1, (0, 0), .null), (.getfield 25, 3, (7, 7), .null), (.iconst 1, 1, (0, 0), .int 1), (.iaload, 1, (0, 0), .null)] (G := vp_in 1 35 ∧ True) (c' := (13, [some (.ref 39), none], [.int (M 45 (Int32.toNatClampNeg 1))], M)) (by decide +kernel) rfl ⟨(vp_lit (by decide)), trivial⟩ ?_
    refine WP.br (.ifCond .eq 12, 3, (25, 0), .null) (by decide +kernel) rfl (fun c2 => ?_) (fun c2 => ?_)
    · replace h := h.1 c2
      exact L_R_readRings_25 hΦ hrec_0 _ h
    · replace h := h.2 c2
      refine WP.blk [(.aload_n 0, 1, (0, 0), .null), (.bipush 107, 2, (0, 0), .int 107)] (G := True) (c' := (19, [some (.ref 39), none], [.int 107, .ref 39], M)) (by decide +kernel) rfl trivial ?_
      refine WP.call (.invokevirtual 117, 3, (148, 2), .retAddr 7) (by decide +kernel) rfl (sp_R_isLetter (d := d + 3) h (fun r3 h => ?_))
      show WP (Ct (d + 4)) 151 Post (22, [some (.ref 39), none], [.int r3], M)
      refine WP.br (.ifCond .eq 81, 3, (103, 0), .null) (by decide +kernel) rfl (fun c4 => ?_) (fun c4 => ?_)
      · replace h := h.1 c4
        exact WP.ret (.return_, 1, (0, 0), .null) (rk := 0) (by decide +kernel) (by decide +kernel) rfl trivial (hΦ _ h)
      · replace h := h.2 c4
        exact L_R_readRings_25 hΦ hrec_0 _ h
theorem P_R_readRings_0 {d : Nat} {Post : Option Value → Mm → Prop} {Φ : Mm → Prop} (hΦ : ∀ M1, Φ M1 → Post none M1) : ∀ (n : Nat) (M : Mm), lp (D_R_readRings_0 Φ) n M → WP (Ct (d + 4)) 151 Post (0, [some (.ref 39), none], [], M)
  | 0, M, h => absurd h (by simp [lp])
  | n + 1, M, h => L_R_readRings_0 hΦ (P_R_readRings_0 hΦ n) M h
set_option maxRecDepth 100000 in
set_option maxHeartbeats 4000000 in
theorem sp_R_readRings {d : Nat} {Post : Option Value → Mm → Prop} {M : Mm} {Φ : Mm → Prop} (h : S_R_readRings M Φ) (hΦ : ∀ M1, Φ M1 → Post none M1) : Ct (d + 5) 151 [.ref 39] M Post := by
  refine Ct.go (n := 2) (E := [some (.ref 39), none]) (by decide +kernel) (by simp [Value.category]) rfl ?_
  obtain ⟨n, h⟩ := h
  exact P_R_readRings_0 hΦ n _ h
/-- GearRoadModel.cogSort()I -/
def S_R_cogSort (M : Mm) (Φ : Int32 → Prop) : Prop := S_R_isLetter M 112 (fun r1 => ((r1 = 0 → S_R_isLetter M 119 (fun r3 => ((r3 = 0 → S_R_isLetter M 114 (fun r5 => ((r5 = 0 → S_R_isLetter M 111 (fun r7 => ((r7 = 0 → S_R_isLetter M 102 (fun r9 => ((r9 = 0 → Φ 0) ∧ (¬ (r9 = 0) → Φ 5)))) ∧ (¬ (r7 = 0) → Φ 4)))) ∧ (¬ (r5 = 0) → Φ 3)))) ∧ (¬ (r3 = 0) → Φ 2)))) ∧ (¬ (r1 = 0) → Φ 1)))
set_option maxRecDepth 100000 in
set_option maxHeartbeats 4000000 in
theorem sp_R_cogSort {d : Nat} {Post : Option Value → Mm → Prop} {M : Mm} {Φ : Int32 → Prop} (h : S_R_cogSort M Φ) (hΦ : ∀ r, Φ r → Post (some (.int r)) M) : Ct (d + 2) 153 [.ref 39] M Post := by
  refine Ct.go (n := 1) (E := [some (.ref 39)]) (by decide +kernel) (by simp [Value.category]) rfl ?_
  refine WP.blk [(.aload_n 0, 1, (0, 0), .null), (.bipush 112, 2, (0, 0), .int 112)] (G := True) (c' := (3, [some (.ref 39)], [.int 112, .ref 39], M)) (by decide +kernel) rfl trivial ?_
  refine WP.call (.invokevirtual 117, 3, (148, 2), .retAddr 7) (by decide +kernel) rfl (sp_R_isLetter (d := d + 0) h (fun r1 h => ?_))
  show WP (Ct (d + 1)) 153 Post (6, [some (.ref 39)], [.int r1], M)
  refine WP.br (.ifCond .eq 7, 3, (13, 0), .null) (by decide +kernel) rfl (fun c2 => ?_) (fun c2 => ?_)
  · replace h := h.1 c2
    refine WP.blk [(.aload_n 0, 1, (0, 0), .null), (.bipush 119, 2, (0, 0), .int 119)] (G := True) (c' := (16, [some (.ref 39)], [.int 119, .ref 39], M)) (by decide +kernel) rfl trivial ?_
    refine WP.call (.invokevirtual 117, 3, (148, 2), .retAddr 7) (by decide +kernel) rfl (sp_R_isLetter (d := d + 0) h (fun r3 h => ?_))
    show WP (Ct (d + 1)) 153 Post (19, [some (.ref 39)], [.int r3], M)
    refine WP.br (.ifCond .eq 7, 3, (26, 0), .null) (by decide +kernel) rfl (fun c4 => ?_) (fun c4 => ?_)
    · replace h := h.1 c4
      refine WP.blk [(.aload_n 0, 1, (0, 0), .null), (.bipush 114, 2, (0, 0), .int 114)] (G := True) (c' := (29, [some (.ref 39)], [.int 114, .ref 39], M)) (by decide +kernel) rfl trivial ?_
      refine WP.call (.invokevirtual 117, 3, (148, 2), .retAddr 7) (by decide +kernel) rfl (sp_R_isLetter (d := d + 0) h (fun r5 h => ?_))
      show WP (Ct (d + 1)) 153 Post (32, [some (.ref 39)], [.int r5], M)
      refine WP.br (.ifCond .eq 7, 3, (39, 0), .null) (by decide +kernel) rfl (fun c6 => ?_) (fun c6 => ?_)
      · replace h := h.1 c6
        refine WP.blk [(.aload_n 0, 1, (0, 0), .null), (.bipush 111, 2, (0, 0), .int 111)] (G := True) (c' := (42, [some (.ref 39)], [.int 111, .ref 39], M)) (by decide +kernel) rfl trivial ?_
        refine WP.call (.invokevirtual 117, 3, (148, 2), .retAddr 7) (by decide +kernel) rfl (sp_R_isLetter (d := d + 0) h (fun r7 h => ?_))
        show WP (Ct (d + 1)) 153 Post (45, [some (.ref 39)], [.int r7], M)
        refine WP.br (.ifCond .eq 7, 3, (52, 0), .null) (by decide +kernel) rfl (fun c8 => ?_) (fun c8 => ?_)
        · replace h := h.1 c8
          refine WP.blk [(.aload_n 0, 1, (0, 0), .null), (.bipush 102, 2, (0, 0), .int 102)] (G := True) (c' := (55, [some (.ref 39)], [.int 102, .ref 39], M)) (by decide +kernel) rfl trivial ?_
          refine WP.call (.invokevirtual 117, 3, (148, 2), .retAddr 7) (by decide +kernel) rfl (sp_R_isLetter (d := d + 0) h (fun r9 h => ?_))
          show WP (Ct (d + 1)) 153 Post (58, [some (.ref 39)], [.int r9], M)
          refine WP.br (.ifCond .eq 7, 3, (65, 0), .null) (by decide +kernel) rfl (fun c10 => ?_) (fun c10 => ?_)
          · replace h := h.1 c10
            refine WP.blk [(.iconst 0, 1, (0, 0), .int 0)] (G := True) (c' := (66, [some (.ref 39)], [.int 0], M)) (by decide +kernel) rfl trivial ?_
            exact WP.ret (.ireturn, 1, (0, 0), .null) (rk := 1) (by decide +kernel) (by decide +kernel) rfl trivial (hΦ _ h)
          · replace h := h.2 c10
            refine WP.blk [(.iconst 5, 1, (0, 0), .int 5), (.goto 4, 3, (66, 0), .null)] (G := True) (c' := (66, [some (.ref 39)], [.int 5], M)) (by decide +kernel) rfl trivial ?_
            exact WP.ret (.ireturn, 1, (0, 0), .null) (rk := 1) (by decide +kernel) (by decide +kernel) rfl trivial (hΦ _ h)
        · replace h := h.2 c8
          refine WP.blk [(.iconst 4, 1, (0, 0), .int 4), (.goto 17, 3, (66, 0), .null)] (G := True) (c' := (66, [some (.ref 39)], [.int 4], M)) (by decide +kernel) rfl trivial ?_
          exact WP.ret (.ireturn, 1, (0, 0), .null) (rk := 1) (by decide +kernel) (by decide +kernel) rfl trivial (hΦ _ h)
      · replace h := h.2 c6
        refine WP.blk [(.iconst 3, 1, (0, 0), .int 3), (.goto 30, 3, (66, 0), .null)] (G := True) (c' := (66, [some (.ref 39)], [.int 3], M)) (by decide +kernel) rfl trivial ?_
        exact WP.ret (.ireturn, 1, (0, 0), .null) (rk := 1) (by decide +kernel) (by decide +kernel) rfl trivial (hΦ _ h)
    · replace h := h.2 c4
      refine WP.blk [(.iconst 2, 1, (0, 0), .int 2), (.goto 43, 3, (66, 0), .null)] (G := True) (c' := (66, [some (.ref 39)], [.int 2], M)) (by decide +kernel) rfl trivial ?_
      exact WP.ret (.ireturn, 1, (0, 0), .null) (rk := 1) (by decide +kernel) (by decide +kernel) rfl trivial (hΦ _ h)
  · replace h := h.2 c2
    refine WP.blk [(.iconst 1, 1, (0, 0), .int 1), (.goto 56, 3, (66, 0), .null)] (G := True) (c' := (66, [some (.ref 39)], [.int 1], M)) (by decide +kernel) rfl trivial ?_
    exact WP.ret (.ireturn, 1, (0, 0), .null) (rk := 1) (by decide +kernel) (by decide +kernel) rfl trivial (hΦ _ h)
/-- GearRoadModel.readCogs()V -/
def D_R_readCogs_114 (Φ : Mm → Prop) (rec_0 : Mm → Prop) : Mm → Prop
  | M => rec_0 M
def D_R_readCogs_54 (Φ : Mm → Prop) (rec_0 : Mm → Prop) : Int32 × Int32 × Mm → Prop
  | (x1, x2, M) => S_R_due M x2 3 (fun M3 => S_R_told M3 10 40 (fun r4 M4 => (((M4 39 19) = 0 → vp_in (11 + (M4 45 (Int32.toNatClampNeg 2))) 35 ∧ (∀ M6, M6 = mu M4 45 (Int32.toNatClampNeg (11 + (M4 45 (Int32.toNatClampNeg 2)))) x1 → vp_in (17 + (M6 45 (Int32.toNatClampNeg 2))) 35 ∧ (∀ M7, M7 = mu M6 45 (Int32.toNatClampNeg (17 + (M6 45 (Int32.toNatClampNeg 2)))) r4 → (∀ M8, M8 = mu M7 45 (Int32.toNatClampNeg 2) ((M7 45 (Int32.toNatClampNeg 2)) + 1) → D_R_readCogs_114 Φ rec_0 M8)))) ∧ (¬ ((M4 39 19) = 0) → D_R_readCogs_114 Φ rec_0 M4))))
def D_R_readCogs_37 (Φ : Mm → Prop) (rec_0 : Mm → Prop) : Int32 × Mm → Prop
  | (x1, M) => ((6 ≤ (M 45 (Int32.toNatClampNeg 2)) → D_R_readCogs_54 Φ rec_0 (x1, 0, M)) ∧ (¬ (6 ≤ (M 45 (Int32.toNatClampNeg 2))) → D_R_readCogs_54 Φ rec_0 (x1, 1, M)))
def D_R_readCogs_23 (Φ : Mm → Prop) (rec_0 : Mm → Prop) : Mm → Prop
  | M => S_R_cogSort M (fun r1 => ((r1 = 0 → (∀ M3, M3 = mu M 39 19 1 → D_R_readCogs_37 Φ rec_0 (r1, M3))) ∧ (¬ (r1 = 0) → D_R_readCogs_37 Φ rec_0 (r1, M))))
def D_R_readCogs_0 (Φ : Mm → Prop) (rec_0 : Mm → Prop) : Mm → Prop
  | M => (((M 39 19) = 0 → (((M 45 (Int32.toNatClampNeg 2)) = 0 → D_R_readCogs_23 Φ rec_0 M) ∧ (¬ ((M 45 (Int32.toNatClampNeg 2)) = 0) → S_R_cogSort M (fun r3 => ((r3 ≤ 0 → Φ M) ∧ (¬ (r3 ≤ 0) → D_R_readCogs_23 Φ rec_0 M)))))) ∧ (¬ ((M 39 19) = 0) → Φ M))
def S_R_readCogs (M : Mm) (Φ : Mm → Prop) : Prop := ∃ n, lp (D_R_readCogs_0 Φ) n M
set_option maxRecDepth 100000 in
set_option maxHeartbeats 4000000 in
theorem L_R_readCogs_114 {d : Nat} {Post : Option Value → Mm → Prop} {rec_0 : Mm → Prop} {Φ : Mm → Prop} (hΦ : ∀ M1, Φ M1 → Post none M1) (hrec_0 : ∀ (M : Mm), rec_0 M → WP (Ct (d + 4)) 152 Post (0, [some (.ref 39), none, none], [], M)) : ∀ (M : Mm), D_R_readCogs_114 Φ rec_0 M → WP (Ct (d + 4)) 152 Post (114, [some (.ref 39), none, none], [], M) := by
  intro M h
  replace h : rec_0 M := h
  refine WP.blk [(.goto (-114), 3, (0, 0), .null)] (G := True) (c' := (0, [some (.ref 39), none, none], [], M)) (by decide +kernel) rfl trivial ?_
  exact hrec_0 _ h
set_option maxRecDepth 100000 in
set_option maxHeartbeats 4000000 in
theorem L_R_readCogs_54 {d : Nat} {Post : Option Value → Mm → Prop} {rec_0 : Mm → Prop} {Φ : Mm → Prop} (hΦ : ∀ M1, Φ M1 → Post none M1) (hrec_0 : ∀ (M : Mm), rec_0 M → WP (Ct (d + 4)) 152 Post (0, [some (.ref 39), none, none], [], M)) : ∀ (x1 : Int32) (x2 : Int32) (M : Mm), D_R_readCogs_54 Φ rec_0 (x1, x2, M) → WP (Ct (d + 4)) 152 Post (54, [some (.ref 39), some (.int x1), none], [.int x2, .ref 39], M) := by
  intro x1 x2 M h
  replace h : S_R_due M x2 3 (fun M3 => S_R_told M3 10 40 (fun r4 M4 => (((M4 39 19) = 0 → vp_in (11 + (M4 45 (Int32.toNatClampNeg 2))) 35 ∧ (∀ M6, M6 = mu M4 45 (Int32.toNatClampNeg (11 + (M4 45 (Int32.toNatClampNeg 2)))) x1 → vp_in (17 + (M6 45 (Int32.toNatClampNeg 2))) 35 ∧ (∀ M7, M7 = mu M6 45 (Int32.toNatClampNeg (17 + (M6 45 (Int32.toNatClampNeg 2)))) r4 → (∀ M8, M8 = mu M7 45 (Int32.toNatClampNeg 2) ((M7 45 (Int32.toNatClampNeg 2)) + 1) → D_R_readCogs_114 Φ rec_0 M8)))) ∧ (¬ ((M4 39 19) = 0) → D_R_readCogs_114 Φ rec_0 M4)))) := h
  refine WP.blk [(.iconst 3, 1, (0, 0), .int 3)] (G := True) (c' := (55, [some (.ref 39), some (.int x1), none], [.int 3, .int x2, .ref 39], M)) (by decide +kernel) rfl trivial ?_
  refine WP.call (.invokevirtual 113, 3, (149, 3), .retAddr 7) (by decide +kernel) rfl (sp_R_due (d := d + 1) h (fun M3 h => ?_))
  show WP (Ct (d + 4)) 152 Post (58, [some (.ref 39), some (.int x1), none], [], M3)
  refine WP.blk [(.aload_n 0, 1, (0, 0), .null), (.bipush 10, 2, (0, 0), .int 10), (.bipush 40, 2, (0, 0), .int 40)] (G := True) (c' := (63, [some (.ref 39), some (.int x1), none], [.int 40, .int 10, .ref 39], M3)) (by decide +kernel) rfl trivial ?_
  refine WP.call (.invokevirtual 140, 3, (150, 3), .retAddr 7) (by decide +kernel) rfl (sp_R_told (d := d + 0) h (fun r4 M4 h => ?_))
  show WP (Ct (d + 4)) 152 Post (66, [some (.ref 39), some (.int x1), none], [.int r4], M4)
  refine WP.blk [(.istore_n 2, 1, (0, 0), .null), (.aload_n 0, 1, (0, 0), .null), (.getfield 107, 3, (7, 19), .null)] (G := True) (c' := (71, [some (.ref 39), some (.int x1), some (.int r4)], [.int (M4 39 19)], M4)) (by decide +kernel) rfl trivial ?_
  refine WP.br (.ifCond .ne 43, 3, (114, 0), .null) (by decide +kernel) rfl (fun c5 => ?_) (fun c5 => ?_)
  · replace h := h.2 c5
    refine WP.fgt [some (.ref 39), none, none] (by simp [fgt]) ?_
    exact L_R_readCogs_114 hΦ hrec_0 _ h
  · replace h := h.1 (Classical.not_not.mp c5)
    refine WP.blk [(.aload_n 0, 1, (0, 0), .null), (.getfield 25, 3, (7, 7), .null), (.bipush 11, 2, (0, 0), .int 11), (.aload_n 0, 1, (0, 0), .null), (.getfield 25, 3, (7, 7), .null), (.iconst 2, 1, (0, 0), .int 2), (.iaload, 1, (0, 0), .null), (.iadd, 1, (0, 0), .null), (.iload_n 1, 1, (0, 0), .null), (.iastore, 1, (0, 0), .null)] (G := vp_in 2 35 ∧ vp_in (11 + (M4 45 (Int32.toNatClampNeg 2))) 35 ∧ True) (c' := (89, [some (.ref 39), some (.int x1), some (.int r4)], [], (mu M4 45 (Int32.toNatClampNeg (11 + (M4 45 (Int32.toNatClampNeg 2)))) x1))) (by decide +kernel) rfl ⟨(vp_lit (by decide)), h.1, trivial⟩ ?_
    replace h := h.2
    replace h := h (mu M4 45 (Int32.toNatClampNeg (11 + (M4 45 (Int32.toNatClampNeg 2)))) x1) rfl
    generalize (mu M4 45 (Int32.toNatClampNeg (11 + (M4 45 (Int32.toNatClampNeg 2)))) x1) = M6 at h ⊢
    refine WP.blk [(.aload_n 0, 1, (0, 0), .null), (.getfield 25, 3, (7, 7), .null), (.bipush 17, 2, (0, 0), .int 17), (.aload_n 0, 1, (0, 0), .null), (.getfield 25, 3, (7, 7), .null), (.iconst 2, 1, (0, 0), .int 2), (.iaload, 1, (0, 0), .null), (.iadd, 1, (0, 0), .null), (.iload_n 2, 1, (0, 0), .null), (.iastore, 1, (0, 0), .null)] (G := vp_in 2 35 ∧ vp_in (17 + (M6 45 (Int32.toNatClampNeg 2))) 35 ∧ True) (c' := (104, [some (.ref 39), some (.int x1), some (.int r4)], [], (mu M6 45 (Int32.toNatClampNeg (17 + (M6 45 (Int32.toNatClampNeg 2)))) r4))) (by decide +kernel) rfl ⟨(vp_lit (by decide)), h.1, trivial⟩ ?_
    replace h := h.2
    replace h := h (mu M6 45 (Int32.toNatClampNeg (17 + (M6 45 (Int32.toNatClampNeg 2)))) r4) rfl
    generalize (mu M6 45 (Int32.toNatClampNeg (17 + (M6 45 (Int32.toNatClampNeg 2)))) r4) = M7 at h ⊢
    refine WP.blk [(.aload_n 0, 1, (0, 0), .null), (.getfield 25, 3, (7, 7), .null), (.iconst 2, 1, (0, 0), .int 2), (.dup2, 1, (0, 0), .null), (.iaload, 1, (0, 0), .null), (.iconst 1, 1, (0, 0), .int 1), (.iadd, 1, (0, 0), .null), (.iastore, 1, (0, 0), .null)] (G := vp_in 2 35 ∧ vp_in 2 35 ∧ True) (c' := (114, [some (.ref 39), some (.int x1), some (.int r4)], [], (mu M7 45 (Int32.toNatClampNeg 2) ((M7 45 (Int32.toNatClampNeg 2)) + 1)))) (by decide +kernel) rfl ⟨(vp_lit (by decide)), (vp_lit (by decide)), trivial⟩ ?_
    replace h := h (mu M7 45 (Int32.toNatClampNeg 2) ((M7 45 (Int32.toNatClampNeg 2)) + 1)) rfl
    generalize (mu M7 45 (Int32.toNatClampNeg 2) ((M7 45 (Int32.toNatClampNeg 2)) + 1)) = M8 at h ⊢
    refine WP.fgt [some (.ref 39), none, none] (by simp [fgt]) ?_
    exact L_R_readCogs_114 hΦ hrec_0 _ h
set_option maxRecDepth 100000 in
set_option maxHeartbeats 4000000 in
theorem L_R_readCogs_37 {d : Nat} {Post : Option Value → Mm → Prop} {rec_0 : Mm → Prop} {Φ : Mm → Prop} (hΦ : ∀ M1, Φ M1 → Post none M1) (hrec_0 : ∀ (M : Mm), rec_0 M → WP (Ct (d + 4)) 152 Post (0, [some (.ref 39), none, none], [], M)) : ∀ (x1 : Int32) (M : Mm), D_R_readCogs_37 Φ rec_0 (x1, M) → WP (Ct (d + 4)) 152 Post (37, [some (.ref 39), some (.int x1), none], [], M) := by
  intro x1 M h
  replace h : ((6 ≤ (M 45 (Int32.toNatClampNeg 2)) → D_R_readCogs_54 Φ rec_0 (x1, 0, M)) ∧ (¬ (6 ≤ (M 45 (Int32.toNatClampNeg 2))) → D_R_readCogs_54 Φ rec_0 (x1, 1, M))) := h
  refine WP.blk [(.aload_n 0, 1, (0, 0), .null), (.aload_n 0, 1, (0, 0), .null), (.getfield 25, 3, (7, 7), .null), (.iconst 2, 1, (0, 0), .int 2), (.iaload, 1, (0, 0), .null), (.bipush 6, 2, (0, 0), .int 6)] (G := vp_in 2 35 ∧ True) (c' := (46, [some (.ref 39), some (.int x1), none], [.int 6, .int (M 45 (Int32.toNatClampNeg 2)), .ref 39], M)) (by decide +kernel) rfl ⟨(vp_lit (by decide)), trivial⟩ ?_
  refine WP.br (.if_icmp .ge 7, 3, (53, 0), .null) (by decide +kernel) rfl (fun c2 => ?_) (fun c2 => ?_)
  · replace h := h.1 c2
    refine WP.blk [(.iconst 0, 1, (0, 0), .int 0)] (G := True) (c' := (54, [some (.ref 39), some (.int x1), none], [.int 0, .ref 39], M)) (by decide +kernel) rfl trivial ?_
    exact L_R_readCogs_54 hΦ hrec_0 _ _ _ h
  · replace h := h.2 c2
    refine WP.blk [(.iconst 1, 1, (0, 0), .int 1), (.goto 4, 3, (54, 0), .null)] (G := True) (c' := (54, [some (.ref 39), some (.int x1), none], [.int 1, .ref 39], M)) (by decide +kernel) rfl trivial ?_
    exact L_R_readCogs_54 hΦ hrec_0 _ _ _ h
set_option maxRecDepth 100000 in
set_option maxHeartbeats 4000000 in
theorem L_R_readCogs_23 {d : Nat} {Post : Option Value → Mm → Prop} {rec_0 : Mm → Prop} {Φ : Mm → Prop} (hΦ : ∀ M1, Φ M1 → Post none M1) (hrec_0 : ∀ (M : Mm), rec_0 M → WP (Ct (d + 4)) 152 Post (0, [some (.ref 39), none, none], [], M)) : ∀ (M : Mm), D_R_readCogs_23 Φ rec_0 M → WP (Ct (d + 4)) 152 Post (23, [some (.ref 39), none, none], [], M) := by
  intro M h
  replace h : S_R_cogSort M (fun r1 => ((r1 = 0 → (∀ M3, M3 = mu M 39 19 1 → D_R_readCogs_37 Φ rec_0 (r1, M3))) ∧ (¬ (r1 = 0) → D_R_readCogs_37 Φ rec_0 (r1, M)))) := h
  refine WP.blk [(.aload_n 0, 1, (0, 0), .null)] (G := True) (c' := (24, [some (.ref 39), none, none], [.ref 39], M)) (by decide +kernel) rfl trivial ?_
  refine WP.call (.invokevirtual 143, 3, (153, 1), .retAddr 7) (by decide +kernel) rfl (sp_R_cogSort (d := d + 2) h (fun r1 h => ?_))
  show WP (Ct (d + 4)) 152 Post (27, [some (.ref 39), none, none], [.int r1], M)
  refine WP.blk [(.istore_n 1, 1, (0, 0), .null), (.iload_n 1, 1, (0, 0), .null)] (G := True) (c' := (29, [some (.ref 39), some (.int r1), none], [.int r1], M)) (by decide +kernel) rfl trivial ?_
  refine WP.br (.ifCond .ne 8, 3, (37, 0), .null) (by decide +kernel) rfl (fun c2 => ?_) (fun c2 => ?_)
  · replace h := h.2 c2
    exact L_R_readCogs_37 hΦ hrec_0 _ _ h
  · replace h := h.1 (Classical.not_not.mp c2)
    refine WP.blk [(.aload_n 0, 1, (0, 0), .null), (.iconst 1, 1, (0, 0), .int 1), (.putfield 107, 3, (7, 19), .null)] (G := True) (c' := (37, [some (.ref 39), some (.int r1), none], [], (mu M 39 19 1))) (by decide +kernel) rfl trivial ?_
    replace h := h (mu M 39 19 1) rfl
    generalize (mu M 39 19 1) = M3 at h ⊢
    exact L_R_readCogs_37 hΦ hrec_0 _ _ h
set_option maxRecDepth 100000 in
set_option maxHeartbeats 4000000 in
theorem L_R_readCogs_0 {d : Nat} {Post : Option Value → Mm → Prop} {rec_0 : Mm → Prop} {Φ : Mm → Prop} (hΦ : ∀ M1, Φ M1 → Post none M1) (hrec_0 : ∀ (M : Mm), rec_0 M → WP (Ct (d + 4)) 152 Post (0, [some (.ref 39), none, none], [], M)) : ∀ (M : Mm), D_R_readCogs_0 Φ rec_0 M → WP (Ct (d + 4)) 152 Post (0, [some (.ref 39), none, none], [], M) := by
  intro M h
  replace h : (((M 39 19) = 0 → (((M 45 (Int32.toNatClampNeg 2)) = 0 → D_R_readCogs_23 Φ rec_0 M) ∧ (¬ ((M 45 (Int32.toNatClampNeg 2)) = 0) → S_R_cogSort M (fun r3 => ((r3 ≤ 0 → Φ M) ∧ (¬ (r3 ≤ 0) → D_R_readCogs_23 Φ rec_0 M)))))) ∧ (¬ ((M 39 19) = 0) → Φ M)) := h
  refine WP.blk [(.aload_n 0, 1, (0, 0), .null), (.getfield 107, 3, (7, 19), .null)] (G := True) (c' := (4, [some (.ref 39), none, none], [.int (M 39 19)], M)) (by decide +kernel) rfl trivial ?_
  refine WP.br (.ifCond .ne 113, 3, (117, 0), .null) (by decide +kernel) rfl (fun c1 => ?_) (fun c1 => ?_)
  · replace h := h.2 c1
    exact WP.ret (.return_, 1, (0, 0), .null) (rk := 0) (by decide +kernel) (by decide +kernel) rfl trivial (hΦ _ h)
  · replace h := h.1 (Classical.not_not.mp c1)
    refine WP.blk [(.aload_n 0, 1, (0, 0), .null), (.getfield 25, 3, (7, 7), .null), (.iconst 2, 1, (0, 0), .int 2), (.iaload, 1, (0, 0), .null)] (G := vp_in 2 35 ∧ True) (c' := (13, [some (.ref 39), none, none], [.int (M 45 (Int32.toNatClampNeg 2))], M)) (by decide +kernel) rfl ⟨(vp_lit (by decide)), trivial⟩ ?_
    refine WP.br (.ifCond .eq 10, 3, (23, 0), .null) (by decide +kernel) rfl (fun c2 => ?_) (fun c2 => ?_)
    · replace h := h.1 c2
      exact L_R_readCogs_23 hΦ hrec_0 _ h
    · replace h := h.2 c2
      refine WP.blk [(.aload_n 0, 1, (0, 0), .null)] (G := True) (c' := (17, [some (.ref 39), none, none], [.ref 39], M)) (by decide +kernel) rfl trivial ?_
      refine WP.call (.invokevirtual 143, 3, (153, 1), .retAddr 7) (by decide +kernel) rfl (sp_R_cogSort (d := d + 2) h (fun r3 h => ?_))
      show WP (Ct (d + 4)) 152 Post (20, [some (.ref 39), none, none], [.int r3], M)
      refine WP.br (.ifCond .le 97, 3, (117, 0), .null) (by decide +kernel) rfl (fun c4 => ?_) (fun c4 => ?_)
      · replace h := h.1 c4
        exact WP.ret (.return_, 1, (0, 0), .null) (rk := 0) (by decide +kernel) (by decide +kernel) rfl trivial (hΦ _ h)
      · replace h := h.2 c4
        exact L_R_readCogs_23 hΦ hrec_0 _ h
theorem P_R_readCogs_0 {d : Nat} {Post : Option Value → Mm → Prop} {Φ : Mm → Prop} (hΦ : ∀ M1, Φ M1 → Post none M1) : ∀ (n : Nat) (M : Mm), lp (D_R_readCogs_0 Φ) n M → WP (Ct (d + 4)) 152 Post (0, [some (.ref 39), none, none], [], M)
  | 0, M, h => absurd h (by simp [lp])
  | n + 1, M, h => L_R_readCogs_0 hΦ (P_R_readCogs_0 hΦ n) M h
set_option maxRecDepth 100000 in
set_option maxHeartbeats 4000000 in
theorem sp_R_readCogs {d : Nat} {Post : Option Value → Mm → Prop} {M : Mm} {Φ : Mm → Prop} (h : S_R_readCogs M Φ) (hΦ : ∀ M1, Φ M1 → Post none M1) : Ct (d + 5) 152 [.ref 39] M Post := by
  refine Ct.go (n := 3) (E := [some (.ref 39), none, none]) (by decide +kernel) (by simp [Value.category]) rfl ?_
  obtain ⟨n, h⟩ := h
  exact P_R_readCogs_0 hΦ n _ h
/-- GearRoadModel.readPieces()V -/
def D_R_readPieces_100 (Φ : Mm → Prop) (rec_0 : Mm → Prop) : Mm → Prop
  | M => rec_0 M
def D_R_readPieces_56 (Φ : Mm → Prop) (rec_0 : Mm → Prop) : Int32 × Mm → Prop
  | (x1, M) => S_R_due M x1 3 (fun M2 => S_R_told M2 0 9 (fun r3 M3 => (((M3 39 19) = 0 → vp_in (23 + (M3 45 (Int32.toNatClampNeg 3))) 35 ∧ (∀ M5, M5 = mu M3 45 (Int32.toNatClampNeg (23 + (M3 45 (Int32.toNatClampNeg 3)))) r3 → (∀ M6, M6 = mu M5 45 (Int32.toNatClampNeg 3) ((M5 45 (Int32.toNatClampNeg 3)) + 1) → D_R_readPieces_100 Φ rec_0 M6))) ∧ (¬ ((M3 39 19) = 0) → D_R_readPieces_100 Φ rec_0 M3))))
def D_R_readPieces_39 (Φ : Mm → Prop) (rec_0 : Mm → Prop) : Mm → Prop
  | M => ((6 ≤ (M 45 (Int32.toNatClampNeg 3)) → D_R_readPieces_56 Φ rec_0 (0, M)) ∧ (¬ (6 ≤ (M 45 (Int32.toNatClampNeg 3))) → D_R_readPieces_56 Φ rec_0 (1, M)))
def D_R_readPieces_25 (Φ : Mm → Prop) (rec_0 : Mm → Prop) : Mm → Prop
  | M => S_R_isLetter M 115 (fun r1 => ((r1 = 0 → (∀ M3, M3 = mu M 39 19 1 → D_R_readPieces_39 Φ rec_0 M3)) ∧ (¬ (r1 = 0) → D_R_readPieces_39 Φ rec_0 M)))
def D_R_readPieces_0 (Φ : Mm → Prop) (rec_0 : Mm → Prop) : Mm → Prop
  | M => (((M 39 19) = 0 → (((M 45 (Int32.toNatClampNeg 3)) = 0 → D_R_readPieces_25 Φ rec_0 M) ∧ (¬ ((M 45 (Int32.toNatClampNeg 3)) = 0) → S_R_isLetter M 115 (fun r3 => ((r3 = 0 → Φ M) ∧ (¬ (r3 = 0) → D_R_readPieces_25 Φ rec_0 M)))))) ∧ (¬ ((M 39 19) = 0) → Φ M))
def S_R_readPieces (M : Mm) (Φ : Mm → Prop) : Prop := ∃ n, lp (D_R_readPieces_0 Φ) n M
set_option maxRecDepth 100000 in
set_option maxHeartbeats 4000000 in
theorem L_R_readPieces_100 {d : Nat} {Post : Option Value → Mm → Prop} {rec_0 : Mm → Prop} {Φ : Mm → Prop} (hΦ : ∀ M1, Φ M1 → Post none M1) (hrec_0 : ∀ (M : Mm), rec_0 M → WP (Ct (d + 4)) 154 Post (0, [some (.ref 39), none], [], M)) : ∀ (M : Mm), D_R_readPieces_100 Φ rec_0 M → WP (Ct (d + 4)) 154 Post (100, [some (.ref 39), none], [], M) := by
  intro M h
  replace h : rec_0 M := h
  refine WP.blk [(.goto (-100), 3, (0, 0), .null)] (G := True) (c' := (0, [some (.ref 39), none], [], M)) (by decide +kernel) rfl trivial ?_
  exact hrec_0 _ h
set_option maxRecDepth 100000 in
set_option maxHeartbeats 4000000 in
theorem L_R_readPieces_56 {d : Nat} {Post : Option Value → Mm → Prop} {rec_0 : Mm → Prop} {Φ : Mm → Prop} (hΦ : ∀ M1, Φ M1 → Post none M1) (hrec_0 : ∀ (M : Mm), rec_0 M → WP (Ct (d + 4)) 154 Post (0, [some (.ref 39), none], [], M)) : ∀ (x1 : Int32) (M : Mm), D_R_readPieces_56 Φ rec_0 (x1, M) → WP (Ct (d + 4)) 154 Post (56, [some (.ref 39), none], [.int x1, .ref 39], M) := by
  intro x1 M h
  replace h : S_R_due M x1 3 (fun M2 => S_R_told M2 0 9 (fun r3 M3 => (((M3 39 19) = 0 → vp_in (23 + (M3 45 (Int32.toNatClampNeg 3))) 35 ∧ (∀ M5, M5 = mu M3 45 (Int32.toNatClampNeg (23 + (M3 45 (Int32.toNatClampNeg 3)))) r3 → (∀ M6, M6 = mu M5 45 (Int32.toNatClampNeg 3) ((M5 45 (Int32.toNatClampNeg 3)) + 1) → D_R_readPieces_100 Φ rec_0 M6))) ∧ (¬ ((M3 39 19) = 0) → D_R_readPieces_100 Φ rec_0 M3)))) := h
  refine WP.blk [(.iconst 3, 1, (0, 0), .int 3)] (G := True) (c' := (57, [some (.ref 39), none], [.int 3, .int x1, .ref 39], M)) (by decide +kernel) rfl trivial ?_
  refine WP.call (.invokevirtual 113, 3, (149, 3), .retAddr 7) (by decide +kernel) rfl (sp_R_due (d := d + 1) h (fun M2 h => ?_))
  show WP (Ct (d + 4)) 154 Post (60, [some (.ref 39), none], [], M2)
  refine WP.blk [(.aload_n 0, 1, (0, 0), .null), (.iconst 0, 1, (0, 0), .int 0), (.bipush 9, 2, (0, 0), .int 9)] (G := True) (c' := (64, [some (.ref 39), none], [.int 9, .int 0, .ref 39], M2)) (by decide +kernel) rfl trivial ?_
  refine WP.call (.invokevirtual 140, 3, (150, 3), .retAddr 7) (by decide +kernel) rfl (sp_R_told (d := d + 0) h (fun r3 M3 h => ?_))
  show WP (Ct (d + 4)) 154 Post (67, [some (.ref 39), none], [.int r3], M3)
  refine WP.blk [(.istore_n 1, 1, (0, 0), .null), (.aload_n 0, 1, (0, 0), .null), (.getfield 107, 3, (7, 19), .null)] (G := True) (c' := (72, [some (.ref 39), some (.int r3)], [.int (M3 39 19)], M3)) (by decide +kernel) rfl trivial ?_
  refine WP.br (.ifCond .ne 28, 3, (100, 0), .null) (by decide +kernel) rfl (fun c4 => ?_) (fun c4 => ?_)
  · replace h := h.2 c4
    refine WP.fgt [some (.ref 39), none] (by simp [fgt]) ?_
    exact L_R_readPieces_100 hΦ hrec_0 _ h
  · replace h := h.1 (Classical.not_not.mp c4)
    refine WP.blk [(.aload_n 0, 1, (0, 0), .null), (.getfield 25, 3, (7, 7), .null), (.bipush 23, 2, (0, 0), .int 23), (.aload_n 0, 1, (0, 0), .null), (.getfield 25, 3, (7, 7), .null), (.iconst 3, 1, (0, 0), .int 3), (.iaload, 1, (0, 0), .null), (.iadd, 1, (0, 0), .null), (.iload_n 1, 1, (0, 0), .null), (.iastore, 1, (0, 0), .null)] (G := vp_in 3 35 ∧ vp_in (23 + (M3 45 (Int32.toNatClampNeg 3))) 35 ∧ True) (c' := (90, [some (.ref 39), some (.int r3)], [], (mu M3 45 (Int32.toNatClampNeg (23 + (M3 45 (Int32.toNatClampNeg 3)))) r3))) (by decide +kernel) rfl ⟨(vp_lit (by decide)), h.1, trivial⟩ ?_
    replace h := h.2
    replace h := h (mu M3 45 (Int32.toNatClampNeg (23 + (M3 45 (Int32.toNatClampNeg 3)))) r3) rfl
    generalize (mu M3 45 (Int32.toNatClampNeg (23 + (M3 45 (Int32.toNatClampNeg 3)))) r3) = M5 at h ⊢
    refine WP.blk [(.aload_n 0, 1, (0, 0), .null), (.getfield 25, 3, (7, 7), .null), (.iconst 3, 1, (0, 0), .int 3), (.dup2, 1, (0, 0), .null), (.iaload, 1, (0, 0), .null), (.iconst 1, 1, (0, 0), .int 1), (.iadd, 1, (0, 0), .null), (.iastore, 1, (0, 0), .null)] (G := vp_in 3 35 ∧ vp_in 3 35 ∧ True) (c' := (100, [some (.ref 39), some (.int r3)], [], (mu M5 45 (Int32.toNatClampNeg 3) ((M5 45 (Int32.toNatClampNeg 3)) + 1)))) (by decide +kernel) rfl ⟨(vp_lit (by decide)), (vp_lit (by decide)), trivial⟩ ?_
    replace h := h (mu M5 45 (Int32.toNatClampNeg 3) ((M5 45 (Int32.toNatClampNeg 3)) + 1)) rfl
    generalize (mu M5 45 (Int32.toNatClampNeg 3) ((M5 45 (Int32.toNatClampNeg 3)) + 1)) = M6 at h ⊢
    refine WP.fgt [some (.ref 39), none] (by simp [fgt]) ?_
    exact L_R_readPieces_100 hΦ hrec_0 _ h
set_option maxRecDepth 100000 in
set_option maxHeartbeats 4000000 in
theorem L_R_readPieces_39 {d : Nat} {Post : Option Value → Mm → Prop} {rec_0 : Mm → Prop} {Φ : Mm → Prop} (hΦ : ∀ M1, Φ M1 → Post none M1) (hrec_0 : ∀ (M : Mm), rec_0 M → WP (Ct (d + 4)) 154 Post (0, [some (.ref 39), none], [], M)) : ∀ (M : Mm), D_R_readPieces_39 Φ rec_0 M → WP (Ct (d + 4)) 154 Post (39, [some (.ref 39), none], [], M) := by
  intro M h
  replace h : ((6 ≤ (M 45 (Int32.toNatClampNeg 3)) → D_R_readPieces_56 Φ rec_0 (0, M)) ∧ (¬ (6 ≤ (M 45 (Int32.toNatClampNeg 3))) → D_R_readPieces_56 Φ rec_0 (1, M))) := h
  refine WP.blk [(.aload_n 0, 1, (0, 0), .null), (.aload_n 0, 1, (0, 0), .null), (.getfield 25, 3, (7, 7), .null), (.iconst 3, 1, (0, 0), .int 3), (.iaload, 1, (0, 0), .null), (.bipush 6, 2, (0, 0), .int 6)] (G := vp_in 3 35 ∧ True) (c' := (48, [some (.ref 39), none], [.int 6, .int (M 45 (Int32.toNatClampNeg 3)), .ref 39], M)) (by decide +kernel) rfl ⟨(vp_lit (by decide)), trivial⟩ ?_
  refine WP.br (.if_icmp .ge 7, 3, (55, 0), .null) (by decide +kernel) rfl (fun c1 => ?_) (fun c1 => ?_)
  · replace h := h.1 c1
    refine WP.blk [(.iconst 0, 1, (0, 0), .int 0)] (G := True) (c' := (56, [some (.ref 39), none], [.int 0, .ref 39], M)) (by decide +kernel) rfl trivial ?_
    exact L_R_readPieces_56 hΦ hrec_0 _ _ h
  · replace h := h.2 c1
    refine WP.blk [(.iconst 1, 1, (0, 0), .int 1), (.goto 4, 3, (56, 0), .null)] (G := True) (c' := (56, [some (.ref 39), none], [.int 1, .ref 39], M)) (by decide +kernel) rfl trivial ?_
    exact L_R_readPieces_56 hΦ hrec_0 _ _ h
set_option maxRecDepth 100000 in
set_option maxHeartbeats 4000000 in
theorem L_R_readPieces_25 {d : Nat} {Post : Option Value → Mm → Prop} {rec_0 : Mm → Prop} {Φ : Mm → Prop} (hΦ : ∀ M1, Φ M1 → Post none M1) (hrec_0 : ∀ (M : Mm), rec_0 M → WP (Ct (d + 4)) 154 Post (0, [some (.ref 39), none], [], M)) : ∀ (M : Mm), D_R_readPieces_25 Φ rec_0 M → WP (Ct (d + 4)) 154 Post (25, [some (.ref 39), none], [], M) := by
  intro M h
  replace h : S_R_isLetter M 115 (fun r1 => ((r1 = 0 → (∀ M3, M3 = mu M 39 19 1 → D_R_readPieces_39 Φ rec_0 M3)) ∧ (¬ (r1 = 0) → D_R_readPieces_39 Φ rec_0 M))) := h
  refine WP.blk [(.aload_n 0, 1, (0, 0), .null), (.bipush 115, 2, (0, 0), .int 115)] (G := True) (c' := (28, [some (.ref 39), none], [.int 115, .ref 39], M)) (by decide +kernel) rfl trivial ?_
  refine WP.call (.invokevirtual 117, 3, (148, 2), .retAddr 7) (by decide +kernel) rfl (sp_R_isLetter (d := d + 3) h (fun r1 h => ?_))
  show WP (Ct (d + 4)) 154 Post (31, [some (.ref 39), none], [.int r1], M)
  refine WP.br (.ifCond .ne 8, 3, (39, 0), .null) (by decide +kernel) rfl (fun c2 => ?_) (fun c2 => ?_)
  · replace h := h.2 c2
    exact L_R_readPieces_39 hΦ hrec_0 _ h
  · replace h := h.1 (Classical.not_not.mp c2)
    refine WP.blk [(.aload_n 0, 1, (0, 0), .null), (.iconst 1, 1, (0, 0), .int 1), (.putfield 107, 3, (7, 19), .null)] (G := True) (c' := (39, [some (.ref 39), none], [], (mu M 39 19 1))) (by decide +kernel) rfl trivial ?_
    replace h := h (mu M 39 19 1) rfl
    generalize (mu M 39 19 1) = M3 at h ⊢
    exact L_R_readPieces_39 hΦ hrec_0 _ h
set_option maxRecDepth 100000 in
set_option maxHeartbeats 4000000 in
theorem L_R_readPieces_0 {d : Nat} {Post : Option Value → Mm → Prop} {rec_0 : Mm → Prop} {Φ : Mm → Prop} (hΦ : ∀ M1, Φ M1 → Post none M1) (hrec_0 : ∀ (M : Mm), rec_0 M → WP (Ct (d + 4)) 154 Post (0, [some (.ref 39), none], [], M)) : ∀ (M : Mm), D_R_readPieces_0 Φ rec_0 M → WP (Ct (d + 4)) 154 Post (0, [some (.ref 39), none], [], M) := by
  intro M h
  replace h : (((M 39 19) = 0 → (((M 45 (Int32.toNatClampNeg 3)) = 0 → D_R_readPieces_25 Φ rec_0 M) ∧ (¬ ((M 45 (Int32.toNatClampNeg 3)) = 0) → S_R_isLetter M 115 (fun r3 => ((r3 = 0 → Φ M) ∧ (¬ (r3 = 0) → D_R_readPieces_25 Φ rec_0 M)))))) ∧ (¬ ((M 39 19) = 0) → Φ M)) := h
  refine WP.blk [(.aload_n 0, 1, (0, 0), .null), (.getfield 107, 3, (7, 19), .null)] (G := True) (c' := (4, [some (.ref 39), none], [.int (M 39 19)], M)) (by decide +kernel) rfl trivial ?_
  refine WP.br (.ifCond .ne 99, 3, (103, 0), .null) (by decide +kernel) rfl (fun c1 => ?_) (fun c1 => ?_)
  · replace h := h.2 c1
    exact WP.ret (.return_, 1, (0, 0), .null) (rk := 0) (by decide +kernel) (by decide +kernel) rfl trivial (hΦ _ h)
  · replace h := h.1 (Classical.not_not.mp c1)
    refine WP.blk [(.aload_n 0, 1, (0, 0), .null), (.getfield 25, 3, (7, 7), .null), (.iconst 3, 1, (0, 0), .int 3), (.iaload, 1, (0, 0), .null)] (G := vp_in 3 35 ∧ True) (c' := (13, [some (.ref 39), none], [.int (M 45 (Int32.toNatClampNeg 3))], M)) (by decide +kernel) rfl ⟨(vp_lit (by decide)), trivial⟩ ?_
    refine WP.br (.ifCond .eq 12, 3, (25, 0), .null) (by decide +kernel) rfl (fun c2 => ?_) (fun c2 => ?_)
    · replace h := h.1 c2
      exact L_R_readPieces_25 hΦ hrec_0 _ h
    · replace h := h.2 c2
      refine WP.blk [(.aload_n 0, 1, (0, 0), .null), (.bipush 115, 2, (0, 0), .int 115)] (G := True) (c' := (19, [some (.ref 39), none], [.int 115, .ref 39], M)) (by decide +kernel) rfl trivial ?_
      refine WP.call (.invokevirtual 117, 3, (148, 2), .retAddr 7) (by decide +kernel) rfl (sp_R_isLetter (d := d + 3) h (fun r3 h => ?_))
      show WP (Ct (d + 4)) 154 Post (22, [some (.ref 39), none], [.int r3], M)
      refine WP.br (.ifCond .eq 81, 3, (103, 0), .null) (by decide +kernel) rfl (fun c4 => ?_) (fun c4 => ?_)
      · replace h := h.1 c4
        exact WP.ret (.return_, 1, (0, 0), .null) (rk := 0) (by decide +kernel) (by decide +kernel) rfl trivial (hΦ _ h)
      · replace h := h.2 c4
        exact L_R_readPieces_25 hΦ hrec_0 _ h
theorem P_R_readPieces_0 {d : Nat} {Post : Option Value → Mm → Prop} {Φ : Mm → Prop} (hΦ : ∀ M1, Φ M1 → Post none M1) : ∀ (n : Nat) (M : Mm), lp (D_R_readPieces_0 Φ) n M → WP (Ct (d + 4)) 154 Post (0, [some (.ref 39), none], [], M)
  | 0, M, h => absurd h (by simp [lp])
  | n + 1, M, h => L_R_readPieces_0 hΦ (P_R_readPieces_0 hΦ n) M h
set_option maxRecDepth 100000 in
set_option maxHeartbeats 4000000 in
theorem sp_R_readPieces {d : Nat} {Post : Option Value → Mm → Prop} {M : Mm} {Φ : Mm → Prop} (h : S_R_readPieces M Φ) (hΦ : ∀ M1, Φ M1 → Post none M1) : Ct (d + 5) 154 [.ref 39] M Post := by
  refine Ct.go (n := 2) (E := [some (.ref 39), none]) (by decide +kernel) (by simp [Value.category]) rfl ?_
  obtain ⟨n, h⟩ := h
  exact P_R_readPieces_0 hΦ n _ h
/-- GearRoadModel.bike()I -/
def D_R_bike_109 (Φ : Int32 → Mm → Prop) (rec_109 : Int32 × Mm → Prop) : Int32 × Mm → Prop
  | (x1, M) => ((35 ≤ x1 → Φ (M 44 (Int32.toNatClampNeg 2)) M) ∧ (¬ (35 ≤ x1) → vp_in x1 35 ∧ vp_in x1 35 ∧ (∀ M3, M3 = mu M 44 (Int32.toNatClampNeg x1) (M 45 (Int32.toNatClampNeg x1)) → rec_109 ((x1 + 1), M3))))
def D_R_bike_65 (Φ : Int32 → Mm → Prop) : Int32 × Mm → Prop
  | (x1, M) => S_R_due M x1 1 (fun M2 => (∀ M3, M3 = mu M2 39 13 0 → (((M3 39 19) = 0 → (∀ M5, M5 = mu M3 39 5 1 → (∀ M6, M6 = mu M5 39 9 0 → ∃ n, lp (D_R_bike_109 Φ) n (0, M6)))) ∧ (¬ ((M3 39 19) = 0) → (∀ M7, M7 = mu M3 39 14 (M3 39 19) → Φ ((-1000100) - (M7 39 16)) M7)))))
def D_R_bike_2 (Φ : Int32 → Mm → Prop) (rec_2 : Int32 × Mm → Prop) : Int32 × Mm → Prop
  | (x1, M) => ((35 ≤ x1 → (∀ M3, M3 = mu M 39 15 0 → (∀ M4, M4 = mu M3 39 19 0 → S_R_step M4 (fun M5 => S_R_readLaw M5 (fun M6 => S_R_readRings M6 (fun M7 => S_R_readCogs M7 (fun M8 => S_R_readPieces M8 (fun M9 => (((M9 39 17) = 3 → D_R_bike_65 Φ (1, M9)) ∧ (¬ ((M9 39 17) = 3) → D_R_bike_65 Φ (0, M9))))))))))) ∧ (¬ (35 ≤ x1) → vp_in x1 35 ∧ (∀ M11, M11 = mu M 45 (Int32.toNatClampNeg x1) 0 → rec_2 ((x1 + 1), M11))))
def S_R_bike (M : Mm) (Φ : Int32 → Mm → Prop) : Prop := ∃ n, lp (D_R_bike_2 Φ) n (0, M)
set_option maxRecDepth 100000 in
set_option maxHeartbeats 4000000 in
theorem L_R_bike_109 {d : Nat} {Post : Option Value → Mm → Prop} {rec_109 : Int32 × Mm → Prop} {Φ : Int32 → Mm → Prop} (hΦ : ∀ r M1, Φ r M1 → Post (some (.int r)) M1) (hrec_109 : ∀ (x1 : Int32) (M : Mm), rec_109 (x1, M) → WP (Ct (d + 5)) 144 Post (109, [some (.ref 39), some (.int x1)], [], M)) : ∀ (x1 : Int32) (M : Mm), D_R_bike_109 Φ rec_109 (x1, M) → WP (Ct (d + 5)) 144 Post (109, [some (.ref 39), some (.int x1)], [], M) := by
  intro x1 M h
  replace h : ((35 ≤ x1 → Φ (M 44 (Int32.toNatClampNeg 2)) M) ∧ (¬ (35 ≤ x1) → vp_in x1 35 ∧ vp_in x1 35 ∧ (∀ M3, M3 = mu M 44 (Int32.toNatClampNeg x1) (M 45 (Int32.toNatClampNeg x1)) → rec_109 ((x1 + 1), M3)))) := h
  refine WP.blk [(.iload_n 1, 1, (0, 0), .null), (.bipush 35, 2, (0, 0), .int 35)] (G := True) (c' := (112, [some (.ref 39), some (.int x1)], [.int 35, .int x1], M)) (by decide +kernel) rfl trivial ?_
  refine WP.br (.if_icmp .ge 21, 3, (133, 0), .null) (by decide +kernel) rfl (fun c2 => ?_) (fun c2 => ?_)
  · replace h := h.1 c2
    refine WP.blk [(.aload_n 0, 1, (0, 0), .null), (.getfield 22, 3, (7, 6), .null), (.iconst 2, 1, (0, 0), .int 2), (.iaload, 1, (0, 0), .null)] (G := vp_in 2 35 ∧ True) (c' := (139, [some (.ref 39), some (.int x1)], [.int (M 44 (Int32.toNatClampNeg 2))], M)) (by decide +kernel) rfl ⟨(vp_lit (by decide)), trivial⟩ ?_
    exact WP.ret (.ireturn, 1, (0, 0), .null) (rk := 1) (by decide +kernel) (by decide +kernel) rfl trivial (hΦ _ _ h)
  · replace h := h.2 c2
    refine WP.blk [(.aload_n 0, 1, (0, 0), .null), (.getfield 22, 3, (7, 6), .null), (.iload_n 1, 1, (0, 0), .null), (.aload_n 0, 1, (0, 0), .null), (.getfield 25, 3, (7, 7), .null), (.iload_n 1, 1, (0, 0), .null), (.iaload, 1, (0, 0), .null), (.iastore, 1, (0, 0), .null)] (G := vp_in x1 35 ∧ vp_in x1 35 ∧ True) (c' := (127, [some (.ref 39), some (.int x1)], [], (mu M 44 (Int32.toNatClampNeg x1) (M 45 (Int32.toNatClampNeg x1))))) (by decide +kernel) rfl ⟨h.1, h.2.1, trivial⟩ ?_
    replace h := h.2.2
    replace h := h (mu M 44 (Int32.toNatClampNeg x1) (M 45 (Int32.toNatClampNeg x1))) rfl
    generalize (mu M 44 (Int32.toNatClampNeg x1) (M 45 (Int32.toNatClampNeg x1))) = M3 at h ⊢
    refine WP.blk [(.iinc 1 1, 3, (0, 0), .int 1), (.goto (-21), 3, (109, 0), .null)] (G := True) (c' := (109, [some (.ref 39), some (.int (x1 + 1))], [], M3)) (by decide +kernel) rfl trivial ?_
    exact hrec_109 _ _ h
theorem P_R_bike_109 {d : Nat} {Post : Option Value → Mm → Prop} {Φ : Int32 → Mm → Prop} (hΦ : ∀ r M1, Φ r M1 → Post (some (.int r)) M1) : ∀ (n : Nat) (x1 : Int32) (M : Mm), lp (D_R_bike_109 Φ) n (x1, M) → WP (Ct (d + 5)) 144 Post (109, [some (.ref 39), some (.int x1)], [], M)
  | 0, x1, M, h => absurd h (by simp [lp])
  | n + 1, x1, M, h => L_R_bike_109 hΦ (P_R_bike_109 hΦ n) x1 M h
set_option maxRecDepth 100000 in
set_option maxHeartbeats 4000000 in
theorem L_R_bike_65 {d : Nat} {Post : Option Value → Mm → Prop} {Φ : Int32 → Mm → Prop} (hΦ : ∀ r M1, Φ r M1 → Post (some (.int r)) M1) : ∀ (x1 : Int32) (M : Mm), D_R_bike_65 Φ (x1, M) → WP (Ct (d + 5)) 144 Post (65, [some (.ref 39), none], [.int x1, .ref 39], M) := by
  intro x1 M h
  replace h : S_R_due M x1 1 (fun M2 => (∀ M3, M3 = mu M2 39 13 0 → (((M3 39 19) = 0 → (∀ M5, M5 = mu M3 39 5 1 → (∀ M6, M6 = mu M5 39 9 0 → ∃ n, lp (D_R_bike_109 Φ) n (0, M6)))) ∧ (¬ ((M3 39 19) = 0) → (∀ M7, M7 = mu M3 39 14 (M3 39 19) → Φ ((-1000100) - (M7 39 16)) M7))))) := h
  refine WP.blk [(.iconst 1, 1, (0, 0), .int 1)] (G := True) (c' := (66, [some (.ref 39), none], [.int 1, .int x1, .ref 39], M)) (by decide +kernel) rfl trivial ?_
  refine WP.call (.invokevirtual 113, 3, (149, 3), .retAddr 7) (by decide +kernel) rfl (sp_R_due (d := d + 2) h (fun M2 h => ?_))
  show WP (Ct (d + 5)) 144 Post (69, [some (.ref 39), none], [], M2)
  refine WP.blk [(.aload_n 0, 1, (0, 0), .null), (.iconst 0, 1, (0, 0), .int 0), (.putfield 87, 3, (7, 13), .null)] (G := True) (c' := (74, [some (.ref 39), none], [], (mu M2 39 13 0))) (by decide +kernel) rfl trivial ?_
  replace h := h (mu M2 39 13 0) rfl
  generalize (mu M2 39 13 0) = M3 at h ⊢
  refine WP.blk [(.aload_n 0, 1, (0, 0), .null), (.getfield 107, 3, (7, 19), .null)] (G := True) (c' := (78, [some (.ref 39), none], [.int (M3 39 19)], M3)) (by decide +kernel) rfl trivial ?_
  refine WP.br (.ifCond .eq 19, 3, (97, 0), .null) (by decide +kernel) rfl (fun c4 => ?_) (fun c4 => ?_)
  · replace h := h.1 c4
    refine WP.blk [(.aload_n 0, 1, (0, 0), .null), (.iconst 1, 1, (0, 0), .int 1), (.putfield 136, 3, (7, 5), .null)] (G := ((1 : Int32) = 0 ∨ (1 : Int32) = 1) ∧ True) (c' := (102, [some (.ref 39), none], [], (mu M3 39 5 1))) (by decide +kernel) rfl ⟨(by decide), trivial⟩ ?_
    replace h := h (mu M3 39 5 1) rfl
    generalize (mu M3 39 5 1) = M5 at h ⊢
    refine WP.blk [(.aload_n 0, 1, (0, 0), .null), (.iconst 0, 1, (0, 0), .int 0), (.putfield 76, 3, (7, 9), .null)] (G := True) (c' := (107, [some (.ref 39), none], [], (mu M5 39 9 0))) (by decide +kernel) rfl trivial ?_
    replace h := h (mu M5 39 9 0) rfl
    generalize (mu M5 39 9 0) = M6 at h ⊢
    refine WP.blk [(.iconst 0, 1, (0, 0), .int 0), (.istore_n 1, 1, (0, 0), .null)] (G := True) (c' := (109, [some (.ref 39), some (.int 0)], [], M6)) (by decide +kernel) rfl trivial ?_
    obtain ⟨n, h⟩ := h
    exact P_R_bike_109 hΦ n _ _ h
  · replace h := h.2 c4
    refine WP.blk [(.aload_n 0, 1, (0, 0), .null), (.aload_n 0, 1, (0, 0), .null), (.getfield 107, 3, (7, 19), .null), (.putfield 132, 3, (7, 14), .null)] (G := True) (c' := (89, [some (.ref 39), none], [], (mu M3 39 14 (M3 39 19)))) (by decide +kernel) rfl trivial ?_
    replace h := h (mu M3 39 14 (M3 39 19)) rfl
    generalize (mu M3 39 14 (M3 39 19)) = M7 at h ⊢
    refine WP.blk [(.ldc 135, 2, (0, 0), .int (-1000100)), (.aload_n 0, 1, (0, 0), .null), (.getfield 94, 3, (7, 16), .null), (.isub, 1, (0, 0), .null)] (G := True) (c' := (96, [some (.ref 39), none], [.int ((-1000100) - (M7 39 16))], M7)) (by decide +kernel) rfl trivial ?_
    exact WP.ret (.ireturn, 1, (0, 0), .null) (rk := 1) (by decide +kernel) (by decide +kernel) rfl trivial (hΦ _ _ h)
set_option maxRecDepth 100000 in
set_option maxHeartbeats 4000000 in
theorem L_R_bike_2 {d : Nat} {Post : Option Value → Mm → Prop} {rec_2 : Int32 × Mm → Prop} {Φ : Int32 → Mm → Prop} (hΦ : ∀ r M1, Φ r M1 → Post (some (.int r)) M1) (hrec_2 : ∀ (x1 : Int32) (M : Mm), rec_2 (x1, M) → WP (Ct (d + 5)) 144 Post (2, [some (.ref 39), some (.int x1)], [], M)) : ∀ (x1 : Int32) (M : Mm), D_R_bike_2 Φ rec_2 (x1, M) → WP (Ct (d + 5)) 144 Post (2, [some (.ref 39), some (.int x1)], [], M) := by
  intro x1 M h
  replace h : ((35 ≤ x1 → (∀ M3, M3 = mu M 39 15 0 → (∀ M4, M4 = mu M3 39 19 0 → S_R_step M4 (fun M5 => S_R_readLaw M5 (fun M6 => S_R_readRings M6 (fun M7 => S_R_readCogs M7 (fun M8 => S_R_readPieces M8 (fun M9 => (((M9 39 17) = 3 → D_R_bike_65 Φ (1, M9)) ∧ (¬ ((M9 39 17) = 3) → D_R_bike_65 Φ (0, M9))))))))))) ∧ (¬ (35 ≤ x1) → vp_in x1 35 ∧ (∀ M11, M11 = mu M 45 (Int32.toNatClampNeg x1) 0 → rec_2 ((x1 + 1), M11)))) := h
  refine WP.blk [(.iload_n 1, 1, (0, 0), .null), (.bipush 35, 2, (0, 0), .int 35)] (G := True) (c' := (5, [some (.ref 39), some (.int x1)], [.int 35, .int x1], M)) (by decide +kernel) rfl trivial ?_
  refine WP.br (.if_icmp .ge 16, 3, (21, 0), .null) (by decide +kernel) rfl (fun c2 => ?_) (fun c2 => ?_)
  · replace h := h.1 c2
    refine WP.blk [(.aload_n 0, 1, (0, 0), .null), (.iconst 0, 1, (0, 0), .int 0), (.putfield 91, 3, (7, 15), .null)] (G := True) (c' := (26, [some (.ref 39), some (.int x1)], [], (mu M 39 15 0))) (by decide +kernel) rfl trivial ?_
    replace h := h (mu M 39 15 0) rfl
    generalize (mu M 39 15 0) = M3 at h ⊢
    refine WP.blk [(.aload_n 0, 1, (0, 0), .null), (.iconst 0, 1, (0, 0), .int 0), (.putfield 107, 3, (7, 19), .null)] (G := True) (c' := (31, [some (.ref 39), some (.int x1)], [], (mu M3 39 19 0))) (by decide +kernel) rfl trivial ?_
    replace h := h (mu M3 39 19 0) rfl
    generalize (mu M3 39 19 0) = M4 at h ⊢
    refine WP.blk [(.aload_n 0, 1, (0, 0), .null)] (G := True) (c' := (32, [some (.ref 39), some (.int x1)], [.ref 39], M4)) (by decide +kernel) rfl trivial ?_
    refine WP.call (.invokevirtual 110, 3, (145, 1), .retAddr 7) (by decide +kernel) rfl (sp_R_step (d := d + 3) h (fun M5 h => ?_))
    show WP (Ct (d + 5)) 144 Post (35, [some (.ref 39), some (.int x1)], [], M5)
    refine WP.blk [(.aload_n 0, 1, (0, 0), .null)] (G := True) (c' := (36, [some (.ref 39), some (.int x1)], [.ref 39], M5)) (by decide +kernel) rfl trivial ?_
    refine WP.call (.invokevirtual 120, 3, (147, 1), .retAddr 7) (by decide +kernel) rfl (sp_R_readLaw (d := d + 0) h (fun M6 h => ?_))
    show WP (Ct (d + 5)) 144 Post (39, [some (.ref 39), some (.int x1)], [], M6)
    refine WP.blk [(.aload_n 0, 1, (0, 0), .null)] (G := True) (c' := (40, [some (.ref 39), some (.int x1)], [.ref 39], M6)) (by decide +kernel) rfl trivial ?_
    refine WP.call (.invokevirtual 123, 3, (151, 1), .retAddr 7) (by decide +kernel) rfl (sp_R_readRings (d := d + 0) h (fun M7 h => ?_))
    show WP (Ct (d + 5)) 144 Post (43, [some (.ref 39), some (.int x1)], [], M7)
    refine WP.blk [(.aload_n 0, 1, (0, 0), .null)] (G := True) (c' := (44, [some (.ref 39), some (.int x1)], [.ref 39], M7)) (by decide +kernel) rfl trivial ?_
    refine WP.call (.invokevirtual 126, 3, (152, 1), .retAddr 7) (by decide +kernel) rfl (sp_R_readCogs (d := d + 0) h (fun M8 h => ?_))
    show WP (Ct (d + 5)) 144 Post (47, [some (.ref 39), some (.int x1)], [], M8)
    refine WP.blk [(.aload_n 0, 1, (0, 0), .null)] (G := True) (c' := (48, [some (.ref 39), some (.int x1)], [.ref 39], M8)) (by decide +kernel) rfl trivial ?_
    refine WP.call (.invokevirtual 129, 3, (154, 1), .retAddr 7) (by decide +kernel) rfl (sp_R_readPieces (d := d + 0) h (fun M9 h => ?_))
    show WP (Ct (d + 5)) 144 Post (51, [some (.ref 39), some (.int x1)], [], M9)
    refine WP.blk [(.aload_n 0, 1, (0, 0), .null), (.aload_n 0, 1, (0, 0), .null), (.getfield 104, 3, (7, 17), .null), (.iconst 3, 1, (0, 0), .int 3)] (G := True) (c' := (57, [some (.ref 39), some (.int x1)], [.int 3, .int (M9 39 17), .ref 39], M9)) (by decide +kernel) rfl trivial ?_
    refine WP.br (.if_icmp .ne 7, 3, (64, 0), .null) (by decide +kernel) rfl (fun c10 => ?_) (fun c10 => ?_)
    · replace h := h.2 c10
      refine WP.blk [(.iconst 0, 1, (0, 0), .int 0)] (G := True) (c' := (65, [some (.ref 39), some (.int x1)], [.int 0, .ref 39], M9)) (by decide +kernel) rfl trivial ?_
      refine WP.fgt [some (.ref 39), none] (by simp [fgt]) ?_
      exact L_R_bike_65 hΦ _ _ h
    · replace h := h.1 (Classical.not_not.mp c10)
      refine WP.blk [(.iconst 1, 1, (0, 0), .int 1), (.goto 4, 3, (65, 0), .null)] (G := True) (c' := (65, [some (.ref 39), some (.int x1)], [.int 1, .ref 39], M9)) (by decide +kernel) rfl trivial ?_
      refine WP.fgt [some (.ref 39), none] (by simp [fgt]) ?_
      exact L_R_bike_65 hΦ _ _ h
  · replace h := h.2 c2
    refine WP.blk [(.aload_n 0, 1, (0, 0), .null), (.getfield 25, 3, (7, 7), .null), (.iload_n 1, 1, (0, 0), .null), (.iconst 0, 1, (0, 0), .int 0), (.iastore, 1, (0, 0), .null)] (G := vp_in x1 35 ∧ True) (c' := (15, [some (.ref 39), some (.int x1)], [], (mu M 45 (Int32.toNatClampNeg x1) 0))) (by decide +kernel) rfl ⟨h.1, trivial⟩ ?_
    replace h := h.2
    replace h := h (mu M 45 (Int32.toNatClampNeg x1) 0) rfl
    generalize (mu M 45 (Int32.toNatClampNeg x1) 0) = M11 at h ⊢
    refine WP.blk [(.iinc 1 1, 3, (0, 0), .int 1), (.goto (-16), 3, (2, 0), .null)] (G := True) (c' := (2, [some (.ref 39), some (.int (x1 + 1))], [], M11)) (by decide +kernel) rfl trivial ?_
    exact hrec_2 _ _ h
theorem P_R_bike_2 {d : Nat} {Post : Option Value → Mm → Prop} {Φ : Int32 → Mm → Prop} (hΦ : ∀ r M1, Φ r M1 → Post (some (.int r)) M1) : ∀ (n : Nat) (x1 : Int32) (M : Mm), lp (D_R_bike_2 Φ) n (x1, M) → WP (Ct (d + 5)) 144 Post (2, [some (.ref 39), some (.int x1)], [], M)
  | 0, x1, M, h => absurd h (by simp [lp])
  | n + 1, x1, M, h => L_R_bike_2 hΦ (P_R_bike_2 hΦ n) x1 M h
set_option maxRecDepth 100000 in
set_option maxHeartbeats 4000000 in
theorem sp_R_bike {d : Nat} {Post : Option Value → Mm → Prop} {M : Mm} {Φ : Int32 → Mm → Prop} (h : S_R_bike M Φ) (hΦ : ∀ r M1, Φ r M1 → Post (some (.int r)) M1) : Ct (d + 6) 144 [.ref 39] M Post := by
  refine Ct.go (n := 2) (E := [some (.ref 39), none]) (by decide +kernel) (by simp [Value.category]) rfl ?_
  refine WP.blk [(.iconst 0, 1, (0, 0), .int 0), (.istore_n 1, 1, (0, 0), .null)] (G := True) (c' := (2, [some (.ref 39), some (.int 0)], [], M)) (by decide +kernel) rfl trivial ?_
  obtain ⟨n, h⟩ := h
  exact P_R_bike_2 hΦ n _ _ h
/-- GearRoadModel.fault()I -/
def S_R_fault (M : Mm) (Φ : Int32 → Prop) : Prop := Φ (M 39 14)
set_option maxRecDepth 100000 in
set_option maxHeartbeats 4000000 in
theorem sp_R_fault {d : Nat} {Post : Option Value → Mm → Prop} {M : Mm} {Φ : Int32 → Prop} (h : S_R_fault M Φ) (hΦ : ∀ r, Φ r → Post (some (.int r)) M) : Ct (d + 1) 155 [.ref 39] M Post := by
  refine Ct.go (n := 1) (E := [some (.ref 39)]) (by decide +kernel) (by simp [Value.category]) rfl ?_
  refine WP.blk [(.aload_n 0, 1, (0, 0), .null), (.getfield 132, 3, (7, 14), .null)] (G := True) (c' := (4, [some (.ref 39)], [.int (M 39 14)], M)) (by decide +kernel) rfl trivial ?_
  exact WP.ret (.ireturn, 1, (0, 0), .null) (rk := 1) (by decide +kernel) (by decide +kernel) rfl trivial (hΦ _ h)
/-- GearRoadModel.gearOf([I)I -/
def S_R_gearOf (k : Nat) (M : Mm) (Φ : Int32 → Prop) : Prop := Φ ((6 * (M k (Int32.toNatClampNeg 4))) + (M k (Int32.toNatClampNeg 5)))
set_option maxRecDepth 100000 in
set_option maxHeartbeats 4000000 in
theorem sp_R_gearOf {d : Nat} {Post : Option Value → Mm → Prop} {k : Nat} {M : Mm} {Φ : Int32 → Prop} (hk : k = 44 ∨ k = 45) (h : S_R_gearOf k M Φ) (hΦ : ∀ r, Φ r → Post (some (.int r)) M) : Ct (d + 1) 157 [.ref k] M Post := by
  rcases hk with rfl | rfl
  · refine Ct.go (n := 1) (E := [some (.ref 44)]) (by decide +kernel) (by simp [Value.category]) rfl ?_
    refine WP.blk [(.bipush 6, 2, (0, 0), .int 6), (.aload_n 0, 1, (0, 0), .null), (.iconst 4, 1, (0, 0), .int 4), (.iaload, 1, (0, 0), .null), (.imul, 1, (0, 0), .null), (.aload_n 0, 1, (0, 0), .null), (.iconst 5, 1, (0, 0), .int 5), (.iaload, 1, (0, 0), .null), (.iadd, 1, (0, 0), .null)] (G := vp_in 4 35 ∧ vp_in 5 35 ∧ True) (c' := (10, [some (.ref 44)], [.int ((6 * (M 44 (Int32.toNatClampNeg 4))) + (M 44 (Int32.toNatClampNeg 5)))], M)) (by decide +kernel) rfl ⟨(vp_lit (by decide)), (vp_lit (by decide)), trivial⟩ ?_
    exact WP.ret (.ireturn, 1, (0, 0), .null) (rk := 1) (by decide +kernel) (by decide +kernel) rfl trivial (hΦ _ h)
  · refine Ct.go (n := 1) (E := [some (.ref 45)]) (by decide +kernel) (by simp [Value.category]) rfl ?_
    refine WP.blk [(.bipush 6, 2, (0, 0), .int 6), (.aload_n 0, 1, (0, 0), .null), (.iconst 4, 1, (0, 0), .int 4), (.iaload, 1, (0, 0), .null), (.imul, 1, (0, 0), .null), (.aload_n 0, 1, (0, 0), .null), (.iconst 5, 1, (0, 0), .int 5), (.iaload, 1, (0, 0), .null), (.iadd, 1, (0, 0), .null)] (G := vp_in 4 35 ∧ vp_in 5 35 ∧ True) (c' := (10, [some (.ref 45)], [.int ((6 * (M 45 (Int32.toNatClampNeg 4))) + (M 45 (Int32.toNatClampNeg 5)))], M)) (by decide +kernel) rfl ⟨(vp_lit (by decide)), (vp_lit (by decide)), trivial⟩ ?_
    exact WP.ret (.ireturn, 1, (0, 0), .null) (rk := 1) (by decide +kernel) (by decide +kernel) rfl trivial (hΦ _ h)
/-- GearRoadModel.loadOf([III)I -/
def S_R_loadOf (k : Nat) (M : Mm) (a1 : Int32) (a2 : Int32) (Φ : Int32 → Prop) : Prop := vp_in (8 + (a1 / 6)) 35 ∧ vp_in (17 + (irm a1 6)) 35 ∧ ¬ (M k (Int32.toNatClampNeg (17 + (irm a1 6)))) = 0 ∧ vp_in (11 + (irm a1 6)) 35 ∧ (((M k (Int32.toNatClampNeg (11 + (irm a1 6)))) < 4 → Φ ((((a2 + 1) * (M k (Int32.toNatClampNeg (8 + (a1 / 6))))) * 10) / (M k (Int32.toNatClampNeg (17 + (irm a1 6)))))) ∧ (¬ ((M k (Int32.toNatClampNeg (11 + (irm a1 6)))) < 4) → Φ (((((a2 + 1) * (M k (Int32.toNatClampNeg (8 + (a1 / 6))))) * 10) / (M k (Int32.toNatClampNeg (17 + (irm a1 6))))) - (((((a2 + 1) * (M k (Int32.toNatClampNeg (8 + (a1 / 6))))) * 10) / (M k (Int32.toNatClampNeg (17 + (irm a1 6))))) / 10))))
set_option maxRecDepth 100000 in
set_option maxHeartbeats 4000000 in
theorem sp_R_loadOf {d : Nat} {Post : Option Value → Mm → Prop} {k : Nat} {M : Mm} {a1 : Int32} {a2 : Int32} {Φ : Int32 → Prop} (hk : k = 44 ∨ k = 45) (h : S_R_loadOf k M a1 a2 Φ) (hΦ : ∀ r, Φ r → Post (some (.int r)) M) : Ct (d + 1) 159 [.ref k, .int a1, .int a2] M Post := by
  rcases hk with rfl | rfl
  · refine Ct.go (n := 4) (E := [some (.ref 44), some (.int a1), some (.int a2), none]) (by decide +kernel) (by simp [Value.category]) rfl ?_
    refine WP.blk [(.iload_n 2, 1, (0, 0), .null), (.iconst 1, 1, (0, 0), .int 1), (.iadd, 1, (0, 0), .null), (.aload_n 0, 1, (0, 0), .null), (.bipush 8, 2, (0, 0), .int 8), (.iload_n 1, 1, (0, 0), .null), (.bipush 6, 2, (0, 0), .int 6), (.idiv, 1, (0, 0), .null), (.iadd, 1, (0, 0), .null), (.iaload, 1, (0, 0), .null), (.imul, 1, (0, 0), .null), (.bipush 10, 2, (0, 0), .int 10), (.imul, 1, (0, 0), .null), (.aload_n 0, 1, (0, 0), .null), (.bipush 17, 2, (0, 0), .int 17), (.iload_n 1, 1, (0, 0), .null), (.bipush 6, 2, (0, 0), .int 6), (.irem, 1, (0, 0), .null), (.iadd, 1, (0, 0), .null), (.iaload, 1, (0, 0), .null), (.idiv, 1, (0, 0), .null), (.istore_n 3, 1, (0, 0), .null), (.aload_n 0, 1, (0, 0), .null), (.bipush 11, 2, (0, 0), .int 11), (.iload_n 1, 1, (0, 0), .null), (.bipush 6, 2, (0, 0), .int 6), (.irem, 1, (0, 0), .null), (.iadd, 1, (0, 0), .null), (.iaload, 1, (0, 0), .null), (.iconst 4, 1, (0, 0), .int 4)] (G := ¬ (6 : Int32) = 0 ∧ vp_in (8 + (a1 / 6)) 35 ∧ ¬ (6 : Int32) = 0 ∧ vp_in (17 + (irm a1 6)) 35 ∧ ¬ (M 44 (Int32.toNatClampNeg (17 + (irm a1 6)))) = 0 ∧ ¬ (6 : Int32) = 0 ∧ vp_in (11 + (irm a1 6)) 35 ∧ True) (c' := (37, [some (.ref 44), some (.int a1), some (.int a2), some (.int ((((a2 + 1) * (M 44 (Int32.toNatClampNeg (8 + (a1 / 6))))) * 10) / (M 44 (Int32.toNatClampNeg (17 + (irm a1 6))))))], [.int 4, .int (M 44 (Int32.toNatClampNeg (11 + (irm a1 6))))], M)) (by decide +kernel) rfl ⟨(by decide), h.1, (by decide), h.2.1, h.2.2.1, (by decide), h.2.2.2.1, trivial⟩ ?_
    replace h := h.2.2.2.2
    refine WP.br (.if_icmp .lt 12, 3, (49, 0), .null) (by decide +kernel) rfl (fun c1 => ?_) (fun c1 => ?_)
    · replace h := h.1 c1
      refine WP.blk [(.iload_n 3, 1, (0, 0), .null)] (G := True) (c' := (50, [some (.ref 44), some (.int a1), some (.int a2), some (.int ((((a2 + 1) * (M 44 (Int32.toNatClampNeg (8 + (a1 / 6))))) * 10) / (M 44 (Int32.toNatClampNeg (17 + (irm a1 6))))))], [.int ((((a2 + 1) * (M 44 (Int32.toNatClampNeg (8 + (a1 / 6))))) * 10) / (M 44 (Int32.toNatClampNeg (17 + (irm a1 6)))))], M)) (by decide +kernel) rfl trivial ?_
      exact WP.ret (.ireturn, 1, (0, 0), .null) (rk := 1) (by decide +kernel) (by decide +kernel) rfl trivial (hΦ _ h)
    · replace h := h.2 c1
      refine WP.blk [(.iload_n 3, 1, (0, 0), .null), (.iload_n 3, 1, (0, 0), .null), (.bipush 10, 2, (0, 0), .int 10), (.idiv, 1, (0, 0), .null), (.isub, 1, (0, 0), .null), (.goto 4, 3, (50, 0), .null)] (G := ¬ (10 : Int32) = 0 ∧ True) (c' := (50, [some (.ref 44), some (.int a1), some (.int a2), some (.int ((((a2 + 1) * (M 44 (Int32.toNatClampNeg (8 + (a1 / 6))))) * 10) / (M 44 (Int32.toNatClampNeg (17 + (irm a1 6))))))], [.int (((((a2 + 1) * (M 44 (Int32.toNatClampNeg (8 + (a1 / 6))))) * 10) / (M 44 (Int32.toNatClampNeg (17 + (irm a1 6))))) - (((((a2 + 1) * (M 44 (Int32.toNatClampNeg (8 + (a1 / 6))))) * 10) / (M 44 (Int32.toNatClampNeg (17 + (irm a1 6))))) / 10))], M)) (by decide +kernel) rfl ⟨(by decide), trivial⟩ ?_
      exact WP.ret (.ireturn, 1, (0, 0), .null) (rk := 1) (by decide +kernel) (by decide +kernel) rfl trivial (hΦ _ h)
  · refine Ct.go (n := 4) (E := [some (.ref 45), some (.int a1), some (.int a2), none]) (by decide +kernel) (by simp [Value.category]) rfl ?_
    refine WP.blk [(.iload_n 2, 1, (0, 0), .null), (.iconst 1, 1, (0, 0), .int 1), (.iadd, 1, (0, 0), .null), (.aload_n 0, 1, (0, 0), .null), (.bipush 8, 2, (0, 0), .int 8), (.iload_n 1, 1, (0, 0), .null), (.bipush 6, 2, (0, 0), .int 6), (.idiv, 1, (0, 0), .null), (.iadd, 1, (0, 0), .null), (.iaload, 1, (0, 0), .null), (.imul, 1, (0, 0), .null), (.bipush 10, 2, (0, 0), .int 10), (.imul, 1, (0, 0), .null), (.aload_n 0, 1, (0, 0), .null), (.bipush 17, 2, (0, 0), .int 17), (.iload_n 1, 1, (0, 0), .null), (.bipush 6, 2, (0, 0), .int 6), (.irem, 1, (0, 0), .null), (.iadd, 1, (0, 0), .null), (.iaload, 1, (0, 0), .null), (.idiv, 1, (0, 0), .null), (.istore_n 3, 1, (0, 0), .null), (.aload_n 0, 1, (0, 0), .null), (.bipush 11, 2, (0, 0), .int 11), (.iload_n 1, 1, (0, 0), .null), (.bipush 6, 2, (0, 0), .int 6), (.irem, 1, (0, 0), .null), (.iadd, 1, (0, 0), .null), (.iaload, 1, (0, 0), .null), (.iconst 4, 1, (0, 0), .int 4)] (G := ¬ (6 : Int32) = 0 ∧ vp_in (8 + (a1 / 6)) 35 ∧ ¬ (6 : Int32) = 0 ∧ vp_in (17 + (irm a1 6)) 35 ∧ ¬ (M 45 (Int32.toNatClampNeg (17 + (irm a1 6)))) = 0 ∧ ¬ (6 : Int32) = 0 ∧ vp_in (11 + (irm a1 6)) 35 ∧ True) (c' := (37, [some (.ref 45), some (.int a1), some (.int a2), some (.int ((((a2 + 1) * (M 45 (Int32.toNatClampNeg (8 + (a1 / 6))))) * 10) / (M 45 (Int32.toNatClampNeg (17 + (irm a1 6))))))], [.int 4, .int (M 45 (Int32.toNatClampNeg (11 + (irm a1 6))))], M)) (by decide +kernel) rfl ⟨(by decide), h.1, (by decide), h.2.1, h.2.2.1, (by decide), h.2.2.2.1, trivial⟩ ?_
    replace h := h.2.2.2.2
    refine WP.br (.if_icmp .lt 12, 3, (49, 0), .null) (by decide +kernel) rfl (fun c1 => ?_) (fun c1 => ?_)
    · replace h := h.1 c1
      refine WP.blk [(.iload_n 3, 1, (0, 0), .null)] (G := True) (c' := (50, [some (.ref 45), some (.int a1), some (.int a2), some (.int ((((a2 + 1) * (M 45 (Int32.toNatClampNeg (8 + (a1 / 6))))) * 10) / (M 45 (Int32.toNatClampNeg (17 + (irm a1 6))))))], [.int ((((a2 + 1) * (M 45 (Int32.toNatClampNeg (8 + (a1 / 6))))) * 10) / (M 45 (Int32.toNatClampNeg (17 + (irm a1 6)))))], M)) (by decide +kernel) rfl trivial ?_
      exact WP.ret (.ireturn, 1, (0, 0), .null) (rk := 1) (by decide +kernel) (by decide +kernel) rfl trivial (hΦ _ h)
    · replace h := h.2 c1
      refine WP.blk [(.iload_n 3, 1, (0, 0), .null), (.iload_n 3, 1, (0, 0), .null), (.bipush 10, 2, (0, 0), .int 10), (.idiv, 1, (0, 0), .null), (.isub, 1, (0, 0), .null), (.goto 4, 3, (50, 0), .null)] (G := ¬ (10 : Int32) = 0 ∧ True) (c' := (50, [some (.ref 45), some (.int a1), some (.int a2), some (.int ((((a2 + 1) * (M 45 (Int32.toNatClampNeg (8 + (a1 / 6))))) * 10) / (M 45 (Int32.toNatClampNeg (17 + (irm a1 6))))))], [.int (((((a2 + 1) * (M 45 (Int32.toNatClampNeg (8 + (a1 / 6))))) * 10) / (M 45 (Int32.toNatClampNeg (17 + (irm a1 6))))) - (((((a2 + 1) * (M 45 (Int32.toNatClampNeg (8 + (a1 / 6))))) * 10) / (M 45 (Int32.toNatClampNeg (17 + (irm a1 6))))) / 10))], M)) (by decide +kernel) rfl ⟨(by decide), trivial⟩ ?_
      exact WP.ret (.ireturn, 1, (0, 0), .null) (rk := 1) (by decide +kernel) (by decide +kernel) rfl trivial (hΦ _ h)
/-- GearRoadModel.bears([III)Z -/
def S_R_bears (k : Nat) (M : Mm) (a1 : Int32) (a2 : Int32) (Φ : Int32 → Prop) : Prop := vp_in (23 + a2) 35 ∧ S_R_loadOf k M a1 (M k (Int32.toNatClampNeg (23 + a2))) (fun r1 => (((M k (Int32.toNatClampNeg 0)) < r1 → Φ 0) ∧ (¬ ((M k (Int32.toNatClampNeg 0)) < r1) → Φ 1)))
set_option maxRecDepth 100000 in
set_option maxHeartbeats 4000000 in
theorem sp_R_bears {d : Nat} {Post : Option Value → Mm → Prop} {k : Nat} {M : Mm} {a1 : Int32} {a2 : Int32} {Φ : Int32 → Prop} (hk : k = 44 ∨ k = 45) (h : S_R_bears k M a1 a2 Φ) (hΦ : ∀ r, Φ r → Post (some (.int r)) M) : Ct (d + 2) 158 [.ref k, .int a1, .int a2] M Post := by
  rcases hk with rfl | rfl
  · refine Ct.go (n := 3) (E := [some (.ref 44), some (.int a1), some (.int a2)]) (by decide +kernel) (by simp [Value.category]) rfl ?_
    refine WP.blk [(.aload_n 0, 1, (0, 0), .null), (.iload_n 1, 1, (0, 0), .null), (.aload_n 0, 1, (0, 0), .null), (.bipush 23, 2, (0, 0), .int 23), (.iload_n 2, 1, (0, 0), .null), (.iadd, 1, (0, 0), .null), (.iaload, 1, (0, 0), .null)] (G := vp_in (23 + a2) 35 ∧ True) (c' := (8, [some (.ref 44), some (.int a1), some (.int a2)], [.int (M 44 (Int32.toNatClampNeg (23 + a2))), .int a1, .ref 44], M)) (by decide +kernel) rfl ⟨h.1, trivial⟩ ?_
    replace h := h.2
    refine WP.call (.invokestatic 79, 3, (159, 3), .null) (by decide +kernel) rfl (sp_R_loadOf (d := d + 0) (by decide) h (fun r1 h => ?_))
    show WP (Ct (d + 1)) 158 Post (11, [some (.ref 44), some (.int a1), some (.int a2)], [.int r1], M)
    refine WP.blk [(.aload_n 0, 1, (0, 0), .null), (.iconst 0, 1, (0, 0), .int 0), (.iaload, 1, (0, 0), .null)] (G := vp_in 0 35 ∧ True) (c' := (14, [some (.ref 44), some (.int a1), some (.int a2)], [.int (M 44 (Int32.toNatClampNeg 0)), .int r1], M)) (by decide +kernel) rfl ⟨(vp_lit (by decide)), trivial⟩ ?_
    refine WP.br (.if_icmp .gt 7, 3, (21, 0), .null) (by decide +kernel) rfl (fun c2 => ?_) (fun c2 => ?_)
    · replace h := h.1 c2
      refine WP.blk [(.iconst 0, 1, (0, 0), .int 0)] (G := True) (c' := (22, [some (.ref 44), some (.int a1), some (.int a2)], [.int 0], M)) (by decide +kernel) rfl trivial ?_
      exact WP.ret (.ireturn, 1, (0, 0), .null) (rk := 2) (by decide +kernel) (by decide +kernel) rfl (by decide) (hΦ _ h)
    · replace h := h.2 c2
      refine WP.blk [(.iconst 1, 1, (0, 0), .int 1), (.goto 4, 3, (22, 0), .null)] (G := True) (c' := (22, [some (.ref 44), some (.int a1), some (.int a2)], [.int 1], M)) (by decide +kernel) rfl trivial ?_
      exact WP.ret (.ireturn, 1, (0, 0), .null) (rk := 2) (by decide +kernel) (by decide +kernel) rfl (by decide) (hΦ _ h)
  · refine Ct.go (n := 3) (E := [some (.ref 45), some (.int a1), some (.int a2)]) (by decide +kernel) (by simp [Value.category]) rfl ?_
    refine WP.blk [(.aload_n 0, 1, (0, 0), .null), (.iload_n 1, 1, (0, 0), .null), (.aload_n 0, 1, (0, 0), .null), (.bipush 23, 2, (0, 0), .int 23), (.iload_n 2, 1, (0, 0), .null), (.iadd, 1, (0, 0), .null), (.iaload, 1, (0, 0), .null)] (G := vp_in (23 + a2) 35 ∧ True) (c' := (8, [some (.ref 45), some (.int a1), some (.int a2)], [.int (M 45 (Int32.toNatClampNeg (23 + a2))), .int a1, .ref 45], M)) (by decide +kernel) rfl ⟨h.1, trivial⟩ ?_
    replace h := h.2
    refine WP.call (.invokestatic 79, 3, (159, 3), .null) (by decide +kernel) rfl (sp_R_loadOf (d := d + 0) (by decide) h (fun r1 h => ?_))
    show WP (Ct (d + 1)) 158 Post (11, [some (.ref 45), some (.int a1), some (.int a2)], [.int r1], M)
    refine WP.blk [(.aload_n 0, 1, (0, 0), .null), (.iconst 0, 1, (0, 0), .int 0), (.iaload, 1, (0, 0), .null)] (G := vp_in 0 35 ∧ True) (c' := (14, [some (.ref 45), some (.int a1), some (.int a2)], [.int (M 45 (Int32.toNatClampNeg 0)), .int r1], M)) (by decide +kernel) rfl ⟨(vp_lit (by decide)), trivial⟩ ?_
    refine WP.br (.if_icmp .gt 7, 3, (21, 0), .null) (by decide +kernel) rfl (fun c2 => ?_) (fun c2 => ?_)
    · replace h := h.1 c2
      refine WP.blk [(.iconst 0, 1, (0, 0), .int 0)] (G := True) (c' := (22, [some (.ref 45), some (.int a1), some (.int a2)], [.int 0], M)) (by decide +kernel) rfl trivial ?_
      exact WP.ret (.ireturn, 1, (0, 0), .null) (rk := 2) (by decide +kernel) (by decide +kernel) rfl (by decide) (hΦ _ h)
    · replace h := h.2 c2
      refine WP.blk [(.iconst 1, 1, (0, 0), .int 1), (.goto 4, 3, (22, 0), .null)] (G := True) (c' := (22, [some (.ref 45), some (.int a1), some (.int a2)], [.int 1], M)) (by decide +kernel) rfl trivial ?_
      exact WP.ret (.ireturn, 1, (0, 0), .null) (rk := 2) (by decide +kernel) (by decide +kernel) rfl (by decide) (hΦ _ h)
/-- GearRoadModel.know()V -/
def D_R_know_51 (Φ : Mm → Prop) (rec_51 : Int32 × Mm → Prop) : Int32 × Mm → Prop
  | (x1, M) => ((35 ≤ x1 → (∀ M3, M3 = mu M 39 9 ((M 39 9) + 1) → Φ M3)) ∧ (¬ (35 ≤ x1) → vp_in x1 35 ∧ vp_in ((35 * (M 39 9)) + x1) 840 ∧ (∀ M4, M4 = mu M 46 (Int32.toNatClampNeg ((35 * (M 39 9)) + x1)) (M 44 (Int32.toNatClampNeg x1)) → rec_51 ((x1 + 1), M4))))
def D_R_know_49 (Φ : Mm → Prop) : Mm → Prop
  | M => ∃ n, lp (D_R_know_51 Φ) n (0, M)
def D_R_know_11 (Φ : Mm → Prop) (rec_11 : Int32 × Mm → Prop) : Int32 × Mm → Prop
  | (x1, M) => ((805 ≤ x1 → (∀ M3, M3 = mu M 39 9 ((M 39 9) - 1) → D_R_know_49 Φ M3)) ∧ (¬ (805 ≤ x1) → vp_in (35 + x1) 840 ∧ vp_in x1 840 ∧ (∀ M4, M4 = mu M 46 (Int32.toNatClampNeg x1) (M 46 (Int32.toNatClampNeg (35 + x1))) → rec_11 ((x1 + 1), M4))))
def S_R_know (M : Mm) (Φ : Mm → Prop) : Prop := (((M 39 9) = 24 → ∃ n, lp (D_R_know_11 Φ) n (0, M)) ∧ (¬ ((M 39 9) = 24) → D_R_know_49 Φ M))
set_option maxRecDepth 100000 in
set_option maxHeartbeats 4000000 in
theorem L_R_know_51 {d : Nat} {Post : Option Value → Mm → Prop} {rec_51 : Int32 × Mm → Prop} {Φ : Mm → Prop} (hΦ : ∀ M1, Φ M1 → Post none M1) (hrec_51 : ∀ (x1 : Int32) (M : Mm), rec_51 (x1, M) → WP (Ct (d + 0)) 160 Post (51, [some (.ref 39), some (.int x1)], [], M)) : ∀ (x1 : Int32) (M : Mm), D_R_know_51 Φ rec_51 (x1, M) → WP (Ct (d + 0)) 160 Post (51, [some (.ref 39), some (.int x1)], [], M) := by
  intro x1 M h
  replace h : ((35 ≤ x1 → (∀ M3, M3 = mu M 39 9 ((M 39 9) + 1) → Φ M3)) ∧ (¬ (35 ≤ x1) → vp_in x1 35 ∧ vp_in ((35 * (M 39 9)) + x1) 840 ∧ (∀ M4, M4 = mu M 46 (Int32.toNatClampNeg ((35 * (M 39 9)) + x1)) (M 44 (Int32.toNatClampNeg x1)) → rec_51 ((x1 + 1), M4)))) := h
  refine WP.blk [(.iload_n 1, 1, (0, 0), .null), (.bipush 35, 2, (0, 0), .int 35)] (G := True) (c' := (54, [some (.ref 39), some (.int x1)], [.int 35, .int x1], M)) (by decide +kernel) rfl trivial ?_
  refine WP.br (.if_icmp .ge 29, 3, (83, 0), .null) (by decide +kernel) rfl (fun c2 => ?_) (fun c2 => ?_)
  · replace h := h.1 c2
    refine WP.blk [(.aload_n 0, 1, (0, 0), .null), (.dup, 1, (0, 0), .null), (.getfield 76, 3, (7, 9), .null), (.iconst 1, 1, (0, 0), .int 1), (.iadd, 1, (0, 0), .null), (.putfield 76, 3, (7, 9), .null)] (G := True) (c' := (93, [some (.ref 39), some (.int x1)], [], (mu M 39 9 ((M 39 9) + 1)))) (by decide +kernel) rfl trivial ?_
    replace h := h (mu M 39 9 ((M 39 9) + 1)) rfl
    generalize (mu M 39 9 ((M 39 9) + 1)) = M3 at h ⊢
    exact WP.ret (.return_, 1, (0, 0), .null) (rk := 0) (by decide +kernel) (by decide +kernel) rfl trivial (hΦ _ h)
  · replace h := h.2 c2
    refine WP.blk [(.aload_n 0, 1, (0, 0), .null), (.getfield 28, 3, (7, 8), .null), (.bipush 35, 2, (0, 0), .int 35), (.aload_n 0, 1, (0, 0), .null), (.getfield 76, 3, (7, 9), .null), (.imul, 1, (0, 0), .null), (.iload_n 1, 1, (0, 0), .null), (.iadd, 1, (0, 0), .null), (.aload_n 0, 1, (0, 0), .null), (.getfield 22, 3, (7, 6), .null), (.iload_n 1, 1, (0, 0), .null), (.iaload, 1, (0, 0), .null), (.iastore, 1, (0, 0), .null)] (G := vp_in x1 35 ∧ vp_in ((35 * (M 39 9)) + x1) 840 ∧ True) (c' := (77, [some (.ref 39), some (.int x1)], [], (mu M 46 (Int32.toNatClampNeg ((35 * (M 39 9)) + x1)) (M 44 (Int32.toNatClampNeg x1))))) (by decide +kernel) rfl ⟨h.1, h.2.1, trivial⟩ ?_
    replace h := h.2.2
    replace h := h (mu M 46 (Int32.toNatClampNeg ((35 * (M 39 9)) + x1)) (M 44 (Int32.toNatClampNeg x1))) rfl
    generalize (mu M 46 (Int32.toNatClampNeg ((35 * (M 39 9)) + x1)) (M 44 (Int32.toNatClampNeg x1))) = M4 at h ⊢
    refine WP.blk [(.iinc 1 1, 3, (0, 0), .int 1), (.goto (-29), 3, (51, 0), .null)] (G := True) (c' := (51, [some (.ref 39), some (.int (x1 + 1))], [], M4)) (by decide +kernel) rfl trivial ?_
    exact hrec_51 _ _ h
theorem P_R_know_51 {d : Nat} {Post : Option Value → Mm → Prop} {Φ : Mm → Prop} (hΦ : ∀ M1, Φ M1 → Post none M1) : ∀ (n : Nat) (x1 : Int32) (M : Mm), lp (D_R_know_51 Φ) n (x1, M) → WP (Ct (d + 0)) 160 Post (51, [some (.ref 39), some (.int x1)], [], M)
  | 0, x1, M, h => absurd h (by simp [lp])
  | n + 1, x1, M, h => L_R_know_51 hΦ (P_R_know_51 hΦ n) x1 M h
set_option maxRecDepth 100000 in
set_option maxHeartbeats 4000000 in
theorem L_R_know_49 {d : Nat} {Post : Option Value → Mm → Prop} {Φ : Mm → Prop} (hΦ : ∀ M1, Φ M1 → Post none M1) : ∀ (M : Mm), D_R_know_49 Φ M → WP (Ct (d + 0)) 160 Post (49, [some (.ref 39), none], [], M) := by
  intro M h
  replace h : ∃ n, lp (D_R_know_51 Φ) n (0, M) := h
  refine WP.blk [(.iconst 0, 1, (0, 0), .int 0), (.istore_n 1, 1, (0, 0), .null)] (G := True) (c' := (51, [some (.ref 39), some (.int 0)], [], M)) (by decide +kernel) rfl trivial ?_
  obtain ⟨n, h⟩ := h
  exact P_R_know_51 hΦ n _ _ h
set_option maxRecDepth 100000 in
set_option maxHeartbeats 4000000 in
theorem L_R_know_11 {d : Nat} {Post : Option Value → Mm → Prop} {rec_11 : Int32 × Mm → Prop} {Φ : Mm → Prop} (hΦ : ∀ M1, Φ M1 → Post none M1) (hrec_11 : ∀ (x1 : Int32) (M : Mm), rec_11 (x1, M) → WP (Ct (d + 0)) 160 Post (11, [some (.ref 39), some (.int x1)], [], M)) : ∀ (x1 : Int32) (M : Mm), D_R_know_11 Φ rec_11 (x1, M) → WP (Ct (d + 0)) 160 Post (11, [some (.ref 39), some (.int x1)], [], M) := by
  intro x1 M h
  replace h : ((805 ≤ x1 → (∀ M3, M3 = mu M 39 9 ((M 39 9) - 1) → D_R_know_49 Φ M3)) ∧ (¬ (805 ≤ x1) → vp_in (35 + x1) 840 ∧ vp_in x1 840 ∧ (∀ M4, M4 = mu M 46 (Int32.toNatClampNeg x1) (M 46 (Int32.toNatClampNeg (35 + x1))) → rec_11 ((x1 + 1), M4)))) := h
  refine WP.blk [(.iload_n 1, 1, (0, 0), .null), (.sipush 805, 3, (0, 0), .int 805)] (G := True) (c' := (15, [some (.ref 39), some (.int x1)], [.int 805, .int x1], M)) (by decide +kernel) rfl trivial ?_
  refine WP.br (.if_icmp .ge 24, 3, (39, 0), .null) (by decide +kernel) rfl (fun c2 => ?_) (fun c2 => ?_)
  · replace h := h.1 c2
    refine WP.blk [(.aload_n 0, 1, (0, 0), .null), (.dup, 1, (0, 0), .null), (.getfield 76, 3, (7, 9), .null), (.iconst 1, 1, (0, 0), .int 1), (.isub, 1, (0, 0), .null), (.putfield 76, 3, (7, 9), .null)] (G := True) (c' := (49, [some (.ref 39), some (.int x1)], [], (mu M 39 9 ((M 39 9) - 1)))) (by decide +kernel) rfl trivial ?_
    replace h := h (mu M 39 9 ((M 39 9) - 1)) rfl
    generalize (mu M 39 9 ((M 39 9) - 1)) = M3 at h ⊢
    refine WP.fgt [some (.ref 39), none] (by simp [fgt]) ?_
    exact L_R_know_49 hΦ _ h
  · replace h := h.2 c2
    refine WP.blk [(.aload_n 0, 1, (0, 0), .null), (.getfield 28, 3, (7, 8), .null), (.iload_n 1, 1, (0, 0), .null), (.aload_n 0, 1, (0, 0), .null), (.getfield 28, 3, (7, 8), .null), (.bipush 35, 2, (0, 0), .int 35), (.iload_n 1, 1, (0, 0), .null), (.iadd, 1, (0, 0), .null), (.iaload, 1, (0, 0), .null), (.iastore, 1, (0, 0), .null)] (G := vp_in (35 + x1) 840 ∧ vp_in x1 840 ∧ True) (c' := (33, [some (.ref 39), some (.int x1)], [], (mu M 46 (Int32.toNatClampNeg x1) (M 46 (Int32.toNatClampNeg (35 + x1)))))) (by decide +kernel) rfl ⟨h.1, h.2.1, trivial⟩ ?_
    replace h := h.2.2
    replace h := h (mu M 46 (Int32.toNatClampNeg x1) (M 46 (Int32.toNatClampNeg (35 + x1)))) rfl
    generalize (mu M 46 (Int32.toNatClampNeg x1) (M 46 (Int32.toNatClampNeg (35 + x1)))) = M4 at h ⊢
    refine WP.blk [(.iinc 1 1, 3, (0, 0), .int 1), (.goto (-25), 3, (11, 0), .null)] (G := True) (c' := (11, [some (.ref 39), some (.int (x1 + 1))], [], M4)) (by decide +kernel) rfl trivial ?_
    exact hrec_11 _ _ h
theorem P_R_know_11 {d : Nat} {Post : Option Value → Mm → Prop} {Φ : Mm → Prop} (hΦ : ∀ M1, Φ M1 → Post none M1) : ∀ (n : Nat) (x1 : Int32) (M : Mm), lp (D_R_know_11 Φ) n (x1, M) → WP (Ct (d + 0)) 160 Post (11, [some (.ref 39), some (.int x1)], [], M)
  | 0, x1, M, h => absurd h (by simp [lp])
  | n + 1, x1, M, h => L_R_know_11 hΦ (P_R_know_11 hΦ n) x1 M h
set_option maxRecDepth 100000 in
set_option maxHeartbeats 4000000 in
theorem sp_R_know {d : Nat} {Post : Option Value → Mm → Prop} {M : Mm} {Φ : Mm → Prop} (h : S_R_know M Φ) (hΦ : ∀ M1, Φ M1 → Post none M1) : Ct (d + 1) 160 [.ref 39] M Post := by
  refine Ct.go (n := 2) (E := [some (.ref 39), none]) (by decide +kernel) (by simp [Value.category]) rfl ?_
  refine WP.blk [(.aload_n 0, 1, (0, 0), .null), (.getfield 76, 3, (7, 9), .null), (.bipush 24, 2, (0, 0), .int 24)] (G := True) (c' := (6, [some (.ref 39), none], [.int 24, .int (M 39 9)], M)) (by decide +kernel) rfl trivial ?_
  refine WP.br (.if_icmp .ne 43, 3, (49, 0), .null) (by decide +kernel) rfl (fun c1 => ?_) (fun c1 => ?_)
  · replace h := h.2 c1
    exact L_R_know_49 hΦ _ h
  · replace h := h.1 (Classical.not_not.mp c1)
    refine WP.blk [(.iconst 0, 1, (0, 0), .int 0), (.istore_n 1, 1, (0, 0), .null)] (G := True) (c' := (11, [some (.ref 39), some (.int 0)], [], M)) (by decide +kernel) rfl trivial ?_
    obtain ⟨n, h⟩ := h
    exact P_R_know_11 hΦ n _ _ h
/-- GearRoadModel.turnsOf([II)I -/
def S_R_turnsOf (k : Nat) (M : Mm) (a1 : Int32) (Φ : Int32 → Prop) : Prop := vp_in (17 + (irm a1 6)) 35 ∧ vp_in (8 + (a1 / 6)) 35 ∧ ¬ (M k (Int32.toNatClampNeg (8 + (a1 / 6)))) = 0 ∧ vp_in (11 + (irm a1 6)) 35 ∧ (((M k (Int32.toNatClampNeg (11 + (irm a1 6)))) = 2 → Φ ((((100 * (M k (Int32.toNatClampNeg (17 + (irm a1 6))))) / (M k (Int32.toNatClampNeg (8 + (a1 / 6))))) + 1) + ((((100 * (M k (Int32.toNatClampNeg (17 + (irm a1 6))))) / (M k (Int32.toNatClampNeg (8 + (a1 / 6))))) + 1) / 4))) ∧ (¬ ((M k (Int32.toNatClampNeg (11 + (irm a1 6)))) = 2) → Φ (((100 * (M k (Int32.toNatClampNeg (17 + (irm a1 6))))) / (M k (Int32.toNatClampNeg (8 + (a1 / 6))))) + 1)))
set_option maxRecDepth 100000 in
set_option maxHeartbeats 4000000 in
theorem sp_R_turnsOf {d : Nat} {Post : Option Value → Mm → Prop} {k : Nat} {M : Mm} {a1 : Int32} {Φ : Int32 → Prop} (hk : k = 44 ∨ k = 45) (h : S_R_turnsOf k M a1 Φ) (hΦ : ∀ r, Φ r → Post (some (.int r)) M) : Ct (d + 1) 161 [.ref k, .int a1] M Post := by
  rcases hk with rfl | rfl
  · refine Ct.go (n := 3) (E := [some (.ref 44), some (.int a1), none]) (by decide +kernel) (by simp [Value.category]) rfl ?_
    refine WP.blk [(.bipush 100, 2, (0, 0), .int 100), (.aload_n 0, 1, (0, 0), .null), (.bipush 17, 2, (0, 0), .int 17), (.iload_n 1, 1, (0, 0), .null), (.bipush 6, 2, (0, 0), .int 6), (.irem, 1, (0, 0), .null), (.iadd, 1, (0, 0), .null), (.iaload, 1, (0, 0), .null), (.imul, 1, (0, 0), .null), (.aload_n 0, 1, (0, 0), .null), (.bipush 8, 2, (0, 0), .int 8), (.iload_n 1, 1, (0, 0), .null), (.bipush 6, 2, (0, 0), .int 6), (.idiv, 1, (0, 0), .null), (.iadd, 1, (0, 0), .null), (.iaload, 1, (0, 0), .null), (.idiv, 1, (0, 0), .null), (.iconst 1, 1, (0, 0), .int 1), (.iadd, 1, (0, 0), .null), (.istore_n 2, 1, (0, 0), .null), (.aload_n 0, 1, (0, 0), .null), (.bipush 11, 2, (0, 0), .int 11), (.iload_n 1, 1, (0, 0), .null), (.bipush 6, 2, (0, 0), .int 6), (.irem, 1, (0, 0), .null), (.iadd, 1, (0, 0), .null), (.iaload, 1, (0, 0), .null), (.iconst 2, 1, (0, 0), .int 2)] (G := ¬ (6 : Int32) = 0 ∧ vp_in (17 + (irm a1 6)) 35 ∧ ¬ (6 : Int32) = 0 ∧ vp_in (8 + (a1 / 6)) 35 ∧ ¬ (M 44 (Int32.toNatClampNeg (8 + (a1 / 6)))) = 0 ∧ ¬ (6 : Int32) = 0 ∧ vp_in (11 + (irm a1 6)) 35 ∧ True) (c' := (35, [some (.ref 44), some (.int a1), some (.int (((100 * (M 44 (Int32.toNatClampNeg (17 + (irm a1 6))))) / (M 44 (Int32.toNatClampNeg (8 + (a1 / 6))))) + 1))], [.int 2, .int (M 44 (Int32.toNatClampNeg (11 + (irm a1 6))))], M)) (by decide +kernel) rfl ⟨(by decide), h.1, (by decide), h.2.1, h.2.2.1, (by decide), h.2.2.2.1, trivial⟩ ?_
    replace h := h.2.2.2.2
    refine WP.br (.if_icmp .ne 11, 3, (46, 0), .null) (by decide +kernel) rfl (fun c1 => ?_) (fun c1 => ?_)
    · replace h := h.2 c1
      refine WP.blk [(.iload_n 2, 1, (0, 0), .null)] (G := True) (c' := (47, [some (.ref 44), some (.int a1), some (.int (((100 * (M 44 (Int32.toNatClampNeg (17 + (irm a1 6))))) / (M 44 (Int32.toNatClampNeg (8 + (a1 / 6))))) + 1))], [.int (((100 * (M 44 (Int32.toNatClampNeg (17 + (irm a1 6))))) / (M 44 (Int32.toNatClampNeg (8 + (a1 / 6))))) + 1)], M)) (by decide +kernel) rfl trivial ?_
      exact WP.ret (.ireturn, 1, (0, 0), .null) (rk := 1) (by decide +kernel) (by decide +kernel) rfl trivial (hΦ _ h)
    · replace h := h.1 (Classical.not_not.mp c1)
      refine WP.blk [(.iload_n 2, 1, (0, 0), .null), (.iload_n 2, 1, (0, 0), .null), (.iconst 4, 1, (0, 0), .int 4), (.idiv, 1, (0, 0), .null), (.iadd, 1, (0, 0), .null), (.goto 4, 3, (47, 0), .null)] (G := ¬ (4 : Int32) = 0 ∧ True) (c' := (47, [some (.ref 44), some (.int a1), some (.int (((100 * (M 44 (Int32.toNatClampNeg (17 + (irm a1 6))))) / (M 44 (Int32.toNatClampNeg (8 + (a1 / 6))))) + 1))], [.int ((((100 * (M 44 (Int32.toNatClampNeg (17 + (irm a1 6))))) / (M 44 (Int32.toNatClampNeg (8 + (a1 / 6))))) + 1) + ((((100 * (M 44 (Int32.toNatClampNeg (17 + (irm a1 6))))) / (M 44 (Int32.toNatClampNeg (8 + (a1 / 6))))) + 1) / 4))], M)) (by decide +kernel) rfl ⟨(by decide), trivial⟩ ?_
      exact WP.ret (.ireturn, 1, (0, 0), .null) (rk := 1) (by decide +kernel) (by decide +kernel) rfl trivial (hΦ _ h)
  · refine Ct.go (n := 3) (E := [some (.ref 45), some (.int a1), none]) (by decide +kernel) (by simp [Value.category]) rfl ?_
    refine WP.blk [(.bipush 100, 2, (0, 0), .int 100), (.aload_n 0, 1, (0, 0), .null), (.bipush 17, 2, (0, 0), .int 17), (.iload_n 1, 1, (0, 0), .null), (.bipush 6, 2, (0, 0), .int 6), (.irem, 1, (0, 0), .null), (.iadd, 1, (0, 0), .null), (.iaload, 1, (0, 0), .null), (.imul, 1, (0, 0), .null), (.aload_n 0, 1, (0, 0), .null), (.bipush 8, 2, (0, 0), .int 8), (.iload_n 1, 1, (0, 0), .null), (.bipush 6, 2, (0, 0), .int 6), (.idiv, 1, (0, 0), .null), (.iadd, 1, (0, 0), .null), (.iaload, 1, (0, 0), .null), (.idiv, 1, (0, 0), .null), (.iconst 1, 1, (0, 0), .int 1), (.iadd, 1, (0, 0), .null), (.istore_n 2, 1, (0, 0), .null), (.aload_n 0, 1, (0, 0), .null), (.bipush 11, 2, (0, 0), .int 11), (.iload_n 1, 1, (0, 0), .null), (.bipush 6, 2, (0, 0), .int 6), (.irem, 1, (0, 0), .null), (.iadd, 1, (0, 0), .null), (.iaload, 1, (0, 0), .null), (.iconst 2, 1, (0, 0), .int 2)] (G := ¬ (6 : Int32) = 0 ∧ vp_in (17 + (irm a1 6)) 35 ∧ ¬ (6 : Int32) = 0 ∧ vp_in (8 + (a1 / 6)) 35 ∧ ¬ (M 45 (Int32.toNatClampNeg (8 + (a1 / 6)))) = 0 ∧ ¬ (6 : Int32) = 0 ∧ vp_in (11 + (irm a1 6)) 35 ∧ True) (c' := (35, [some (.ref 45), some (.int a1), some (.int (((100 * (M 45 (Int32.toNatClampNeg (17 + (irm a1 6))))) / (M 45 (Int32.toNatClampNeg (8 + (a1 / 6))))) + 1))], [.int 2, .int (M 45 (Int32.toNatClampNeg (11 + (irm a1 6))))], M)) (by decide +kernel) rfl ⟨(by decide), h.1, (by decide), h.2.1, h.2.2.1, (by decide), h.2.2.2.1, trivial⟩ ?_
    replace h := h.2.2.2.2
    refine WP.br (.if_icmp .ne 11, 3, (46, 0), .null) (by decide +kernel) rfl (fun c1 => ?_) (fun c1 => ?_)
    · replace h := h.2 c1
      refine WP.blk [(.iload_n 2, 1, (0, 0), .null)] (G := True) (c' := (47, [some (.ref 45), some (.int a1), some (.int (((100 * (M 45 (Int32.toNatClampNeg (17 + (irm a1 6))))) / (M 45 (Int32.toNatClampNeg (8 + (a1 / 6))))) + 1))], [.int (((100 * (M 45 (Int32.toNatClampNeg (17 + (irm a1 6))))) / (M 45 (Int32.toNatClampNeg (8 + (a1 / 6))))) + 1)], M)) (by decide +kernel) rfl trivial ?_
      exact WP.ret (.ireturn, 1, (0, 0), .null) (rk := 1) (by decide +kernel) (by decide +kernel) rfl trivial (hΦ _ h)
    · replace h := h.1 (Classical.not_not.mp c1)
      refine WP.blk [(.iload_n 2, 1, (0, 0), .null), (.iload_n 2, 1, (0, 0), .null), (.iconst 4, 1, (0, 0), .int 4), (.idiv, 1, (0, 0), .null), (.iadd, 1, (0, 0), .null), (.goto 4, 3, (47, 0), .null)] (G := ¬ (4 : Int32) = 0 ∧ True) (c' := (47, [some (.ref 45), some (.int a1), some (.int (((100 * (M 45 (Int32.toNatClampNeg (17 + (irm a1 6))))) / (M 45 (Int32.toNatClampNeg (8 + (a1 / 6))))) + 1))], [.int ((((100 * (M 45 (Int32.toNatClampNeg (17 + (irm a1 6))))) / (M 45 (Int32.toNatClampNeg (8 + (a1 / 6))))) + 1) + ((((100 * (M 45 (Int32.toNatClampNeg (17 + (irm a1 6))))) / (M 45 (Int32.toNatClampNeg (8 + (a1 / 6))))) + 1) / 4))], M)) (by decide +kernel) rfl ⟨(by decide), trivial⟩ ?_
      exact WP.ret (.ireturn, 1, (0, 0), .null) (rk := 1) (by decide +kernel) (by decide +kernel) rfl trivial (hΦ _ h)
/-- GearRoadModel.atMost(I)I -/
def S_R_atMost (M : Mm) (a1 : Int32) (Φ : Int32 → Prop) : Prop := ((a1 ≤ 99999 → Φ a1) ∧ (¬ (a1 ≤ 99999) → Φ 99999))
set_option maxRecDepth 100000 in
set_option maxHeartbeats 4000000 in
theorem sp_R_atMost {d : Nat} {Post : Option Value → Mm → Prop} {M : Mm} {a1 : Int32} {Φ : Int32 → Prop} (h : S_R_atMost M a1 Φ) (hΦ : ∀ r, Φ r → Post (some (.int r)) M) : Ct (d + 1) 163 [.int a1] M Post := by
  refine Ct.go (n := 1) (E := [some (.int a1)]) (by decide +kernel) (by simp [Value.category]) rfl ?_
  refine WP.blk [(.iload_n 0, 1, (0, 0), .null), (.ldc 83, 2, (0, 0), .int (99999))] (G := True) (c' := (3, [some (.int a1)], [.int 99999, .int a1], M)) (by decide +kernel) rfl trivial ?_
  refine WP.br (.if_icmp .le 8, 3, (11, 0), .null) (by decide +kernel) rfl (fun c1 => ?_) (fun c1 => ?_)
  · replace h := h.1 c1
    refine WP.blk [(.iload_n 0, 1, (0, 0), .null)] (G := True) (c' := (12, [some (.int a1)], [.int a1], M)) (by decide +kernel) rfl trivial ?_
    exact WP.ret (.ireturn, 1, (0, 0), .null) (rk := 1) (by decide +kernel) (by decide +kernel) rfl trivial (hΦ _ h)
  · replace h := h.2 c1
    refine WP.blk [(.ldc 83, 2, (0, 0), .int (99999)), (.goto 4, 3, (12, 0), .null)] (G := True) (c' := (12, [some (.int a1)], [.int 99999], M)) (by decide +kernel) rfl trivial ?_
    exact WP.ret (.ireturn, 1, (0, 0), .null) (rk := 1) (by decide +kernel) (by decide +kernel) rfl trivial (hΦ _ h)
/-- GearRoadModel.turnOn([III)V -/
def S_R_turnOn (k : Nat) (M : Mm) (a1 : Int32) (a2 : Int32) (Φ : Mm → Prop) : Prop := S_R_atMost M ((M k (Int32.toNatClampNeg 7)) + a1) (fun r1 => (∀ M2, M2 = mu M k (Int32.toNatClampNeg 7) r1 → ((a2 < 0 → Φ M2) ∧ (¬ (a2 < 0) → vp_in (29 + a2) 35 ∧ S_R_atMost M2 ((M2 k (Int32.toNatClampNeg (29 + a2))) + a1) (fun r4 => vp_in (29 + a2) 35 ∧ (∀ M5, M5 = mu M2 k (Int32.toNatClampNeg (29 + a2)) r4 → Φ M5))))))
set_option maxRecDepth 100000 in
set_option maxHeartbeats 4000000 in
theorem sp_R_turnOn {d : Nat} {Post : Option Value → Mm → Prop} {k : Nat} {M : Mm} {a1 : Int32} {a2 : Int32} {Φ : Mm → Prop} (hk : k = 44 ∨ k = 45) (h : S_R_turnOn k M a1 a2 Φ) (hΦ : ∀ M1, Φ M1 → Post none M1) : Ct (d + 2) 162 [.ref k, .int a1, .int a2] M Post := by
  rcases hk with rfl | rfl
  · refine Ct.go (n := 3) (E := [some (.ref 44), some (.int a1), some (.int a2)]) (by decide +kernel) (by simp [Value.category]) rfl ?_
    refine WP.blk [(.aload_n 0, 1, (0, 0), .null), (.bipush 7, 2, (0, 0), .int 7), (.aload_n 0, 1, (0, 0), .null), (.bipush 7, 2, (0, 0), .int 7), (.iaload, 1, (0, 0), .null), (.iload_n 1, 1, (0, 0), .null), (.iadd, 1, (0, 0), .null)] (G := vp_in 7 35 ∧ True) (c' := (9, [some (.ref 44), some (.int a1), some (.int a2)], [.int ((M 44 (Int32.toNatClampNeg 7)) + a1), .int 7, .ref 44], M)) (by decide +kernel) rfl ⟨(vp_lit (by decide)), trivial⟩ ?_
    refine WP.call (.invokestatic 84, 3, (163, 1), .null) (by decide +kernel) rfl (sp_R_atMost (d := d + 0) h (fun r1 h => ?_))
    show WP (Ct (d + 1)) 162 Post (12, [some (.ref 44), some (.int a1), some (.int a2)], [.int r1, .int 7, .ref 44], M)
    refine WP.blk [(.iastore, 1, (0, 0), .null)] (G := vp_in 7 35 ∧ True) (c' := (13, [some (.ref 44), some (.int a1), some (.int a2)], [], (mu M 44 (Int32.toNatClampNeg 7) r1))) (by decide +kernel) rfl ⟨(vp_lit (by decide)), trivial⟩ ?_
    replace h := h (mu M 44 (Int32.toNatClampNeg 7) r1) rfl
    generalize (mu M 44 (Int32.toNatClampNeg 7) r1) = M2 at h ⊢
    refine WP.blk [(.iload_n 2, 1, (0, 0), .null)] (G := True) (c' := (14, [some (.ref 44), some (.int a1), some (.int a2)], [.int a2], M2)) (by decide +kernel) rfl trivial ?_
    refine WP.br (.ifCond .lt 20, 3, (34, 0), .null) (by decide +kernel) rfl (fun c3 => ?_) (fun c3 => ?_)
    · replace h := h.1 c3
      exact WP.ret (.return_, 1, (0, 0), .null) (rk := 0) (by decide +kernel) (by decide +kernel) rfl trivial (hΦ _ h)
    · replace h := h.2 c3
      refine WP.blk [(.aload_n 0, 1, (0, 0), .null), (.bipush 29, 2, (0, 0), .int 29), (.iload_n 2, 1, (0, 0), .null), (.iadd, 1, (0, 0), .null), (.aload_n 0, 1, (0, 0), .null), (.bipush 29, 2, (0, 0), .int 29), (.iload_n 2, 1, (0, 0), .null), (.iadd, 1, (0, 0), .null), (.iaload, 1, (0, 0), .null), (.iload_n 1, 1, (0, 0), .null), (.iadd, 1, (0, 0), .null)] (G := vp_in (29 + a2) 35 ∧ True) (c' := (30, [some (.ref 44), some (.int a1), some (.int a2)], [.int ((M2 44 (Int32.toNatClampNeg (29 + a2))) + a1), .int (29 + a2), .ref 44], M2)) (by decide +kernel) rfl ⟨h.1, trivial⟩ ?_
      replace h := h.2
      refine WP.call (.invokestatic 84, 3, (163, 1), .null) (by decide +kernel) rfl (sp_R_atMost (d := d + 0) h (fun r4 h => ?_))
      show WP (Ct (d + 1)) 162 Post (33, [some (.ref 44), some (.int a1), some (.int a2)], [.int r4, .int (29 + a2), .ref 44], M2)
      refine WP.blk [(.iastore, 1, (0, 0), .null)] (G := vp_in (29 + a2) 35 ∧ True) (c' := (34, [some (.ref 44), some (.int a1), some (.int a2)], [], (mu M2 44 (Int32.toNatClampNeg (29 + a2)) r4))) (by decide +kernel) rfl ⟨h.1, trivial⟩ ?_
      replace h := h.2
      replace h := h (mu M2 44 (Int32.toNatClampNeg (29 + a2)) r4) rfl
      generalize (mu M2 44 (Int32.toNatClampNeg (29 + a2)) r4) = M5 at h ⊢
      exact WP.ret (.return_, 1, (0, 0), .null) (rk := 0) (by decide +kernel) (by decide +kernel) rfl trivial (hΦ _ h)
  · refine Ct.go (n := 3) (E := [some (.ref 45), some (.int a1), some (.int a2)]) (by decide +kernel) (by simp [Value.category]) rfl ?_
    refine WP.blk [(.aload_n 0, 1, (0, 0), .null), (.bipush 7, 2, (0, 0), .int 7), (.aload_n 0, 1, (0, 0), .null), (.bipush 7, 2, (0, 0), .int 7), (.iaload, 1, (0, 0), .null), (.iload_n 1, 1, (0, 0), .null), (.iadd, 1, (0, 0), .null)] (G := vp_in 7 35 ∧ True) (c' := (9, [some (.ref 45), some (.int a1), some (.int a2)], [.int ((M 45 (Int32.toNatClampNeg 7)) + a1), .int 7, .ref 45], M)) (by decide +kernel) rfl ⟨(vp_lit (by decide)), trivial⟩ ?_
    refine WP.call (.invokestatic 84, 3, (163, 1), .null) (by decide +kernel) rfl (sp_R_atMost (d := d + 0) h (fun r1 h => ?_))
    show WP (Ct (d + 1)) 162 Post (12, [some (.ref 45), some (.int a1), some (.int a2)], [.int r1, .int 7, .ref 45], M)
    refine WP.blk [(.iastore, 1, (0, 0), .null)] (G := vp_in 7 35 ∧ True) (c' := (13, [some (.ref 45), some (.int a1), some (.int a2)], [], (mu M 45 (Int32.toNatClampNeg 7) r1))) (by decide +kernel) rfl ⟨(vp_lit (by decide)), trivial⟩ ?_
    replace h := h (mu M 45 (Int32.toNatClampNeg 7) r1) rfl
    generalize (mu M 45 (Int32.toNatClampNeg 7) r1) = M2 at h ⊢
    refine WP.blk [(.iload_n 2, 1, (0, 0), .null)] (G := True) (c' := (14, [some (.ref 45), some (.int a1), some (.int a2)], [.int a2], M2)) (by decide +kernel) rfl trivial ?_
    refine WP.br (.ifCond .lt 20, 3, (34, 0), .null) (by decide +kernel) rfl (fun c3 => ?_) (fun c3 => ?_)
    · replace h := h.1 c3
      exact WP.ret (.return_, 1, (0, 0), .null) (rk := 0) (by decide +kernel) (by decide +kernel) rfl trivial (hΦ _ h)
    · replace h := h.2 c3
      refine WP.blk [(.aload_n 0, 1, (0, 0), .null), (.bipush 29, 2, (0, 0), .int 29), (.iload_n 2, 1, (0, 0), .null), (.iadd, 1, (0, 0), .null), (.aload_n 0, 1, (0, 0), .null), (.bipush 29, 2, (0, 0), .int 29), (.iload_n 2, 1, (0, 0), .null), (.iadd, 1, (0, 0), .null), (.iaload, 1, (0, 0), .null), (.iload_n 1, 1, (0, 0), .null), (.iadd, 1, (0, 0), .null)] (G := vp_in (29 + a2) 35 ∧ True) (c' := (30, [some (.ref 45), some (.int a1), some (.int a2)], [.int ((M2 45 (Int32.toNatClampNeg (29 + a2))) + a1), .int (29 + a2), .ref 45], M2)) (by decide +kernel) rfl ⟨h.1, trivial⟩ ?_
      replace h := h.2
      refine WP.call (.invokestatic 84, 3, (163, 1), .null) (by decide +kernel) rfl (sp_R_atMost (d := d + 0) h (fun r4 h => ?_))
      show WP (Ct (d + 1)) 162 Post (33, [some (.ref 45), some (.int a1), some (.int a2)], [.int r4, .int (29 + a2), .ref 45], M2)
      refine WP.blk [(.iastore, 1, (0, 0), .null)] (G := vp_in (29 + a2) 35 ∧ True) (c' := (34, [some (.ref 45), some (.int a1), some (.int a2)], [], (mu M2 45 (Int32.toNatClampNeg (29 + a2)) r4))) (by decide +kernel) rfl ⟨h.1, trivial⟩ ?_
      replace h := h.2
      replace h := h (mu M2 45 (Int32.toNatClampNeg (29 + a2)) r4) rfl
      generalize (mu M2 45 (Int32.toNatClampNeg (29 + a2)) r4) = M5 at h ⊢
      exact WP.ret (.return_, 1, (0, 0), .null) (rk := 0) (by decide +kernel) (by decide +kernel) rfl trivial (hΦ _ h)
/-- GearRoadModel.ride()I -/
def S_R_ride (M : Mm) (Φ : Int32 → Mm → Prop) : Prop := (((M 39 5) = 0 → Φ (-1000002) M) ∧ (¬ ((M 39 5) = 0) → (((M 44 (Int32.toNatClampNeg 6)) = (M 44 (Int32.toNatClampNeg 3)) → Φ (-1000002) M) ∧ (¬ ((M 44 (Int32.toNatClampNeg 6)) = (M 44 (Int32.toNatClampNeg 3))) → S_R_gearOf 44 M (fun r3 => S_R_bears 44 M r3 (M 44 (Int32.toNatClampNeg 6)) (fun r4 => ((r4 = 0 → Φ (-1000002) M) ∧ (¬ (r4 = 0) → S_R_know M (fun M6 => S_R_gearOf 44 M6 (fun r7 => S_R_turnsOf 44 M6 r7 (fun r8 => S_R_turnOn 44 M6 r8 (M6 44 (Int32.toNatClampNeg 5)) (fun M9 => (∀ M10, M10 = mu M9 44 (Int32.toNatClampNeg 6) ((M9 44 (Int32.toNatClampNeg 6)) + 1) → Φ r8 M10)))))))))))))
set_option maxRecDepth 100000 in
set_option maxHeartbeats 4000000 in
theorem sp_R_ride {d : Nat} {Post : Option Value → Mm → Prop} {M : Mm} {Φ : Int32 → Mm → Prop} (h : S_R_ride M Φ) (hΦ : ∀ r M1, Φ r M1 → Post (some (.int r)) M1) : Ct (d + 3) 156 [.ref 39] M Post := by
  refine Ct.go (n := 2) (E := [some (.ref 39), none]) (by decide +kernel) (by simp [Value.category]) rfl ?_
  refine WP.blk [(.aload_n 0, 1, (0, 0), .null), (.getfield 136, 3, (7, 5), .null)] (G := True) (c' := (4, [some (.ref 39), none], [.int (M 39 5)], M)) (by decide +kernel) rfl trivial ?_
  refine WP.br (.ifCond .eq 43, 3, (47, 0), .null) (by decide +kernel) rfl (fun c1 => ?_) (fun c1 => ?_)
  · replace h := h.1 c1
    refine WP.blk [(.ldc 154, 2, (0, 0), .int (-1000002))] (G := True) (c' := (49, [some (.ref 39), none], [.int (-1000002)], M)) (by decide +kernel) rfl trivial ?_
    exact WP.ret (.ireturn, 1, (0, 0), .null) (rk := 1) (by decide +kernel) (by decide +kernel) rfl trivial (hΦ _ _ h)
  · replace h := h.2 c1
    refine WP.blk [(.aload_n 0, 1, (0, 0), .null), (.getfield 22, 3, (7, 6), .null), (.bipush 6, 2, (0, 0), .int 6), (.iaload, 1, (0, 0), .null), (.aload_n 0, 1, (0, 0), .null), (.getfield 22, 3, (7, 6), .null), (.iconst 3, 1, (0, 0), .int 3), (.iaload, 1, (0, 0), .null)] (G := vp_in 6 35 ∧ vp_in 3 35 ∧ True) (c' := (20, [some (.ref 39), none], [.int (M 44 (Int32.toNatClampNeg 3)), .int (M 44 (Int32.toNatClampNeg 6))], M)) (by decide +kernel) rfl ⟨(vp_lit (by decide)), (vp_lit (by decide)), trivial⟩ ?_
    refine WP.br (.if_icmp .eq 27, 3, (47, 0), .null) (by decide +kernel) rfl (fun c2 => ?_) (fun c2 => ?_)
    · replace h := h.1 c2
      refine WP.blk [(.ldc 154, 2, (0, 0), .int (-1000002))] (G := True) (c' := (49, [some (.ref 39), none], [.int (-1000002)], M)) (by decide +kernel) rfl trivial ?_
      exact WP.ret (.ireturn, 1, (0, 0), .null) (rk := 1) (by decide +kernel) (by decide +kernel) rfl trivial (hΦ _ _ h)
    · replace h := h.2 c2
      refine WP.blk [(.aload_n 0, 1, (0, 0), .null), (.getfield 22, 3, (7, 6), .null), (.aload_n 0, 1, (0, 0), .null), (.getfield 22, 3, (7, 6), .null)] (G := True) (c' := (31, [some (.ref 39), none], [.ref 44, .ref 44], M)) (by decide +kernel) rfl trivial ?_
      refine WP.call (.invokestatic 146, 3, (157, 1), .null) (by decide +kernel) rfl (sp_R_gearOf (d := d + 1) (by decide) h (fun r3 h => ?_))
      show WP (Ct (d + 2)) 156 Post (34, [some (.ref 39), none], [.int r3, .ref 44], M)
      refine WP.blk [(.aload_n 0, 1, (0, 0), .null), (.getfield 22, 3, (7, 6), .null), (.bipush 6, 2, (0, 0), .int 6), (.iaload, 1, (0, 0), .null)] (G := vp_in 6 35 ∧ True) (c' := (41, [some (.ref 39), none], [.int (M 44 (Int32.toNatClampNeg 6)), .int r3, .ref 44], M)) (by decide +kernel) rfl ⟨(vp_lit (by decide)), trivial⟩ ?_
      refine WP.call (.invokestatic 150, 3, (158, 3), .null) (by decide +kernel) rfl (sp_R_bears (d := d + 0) (by decide) h (fun r4 h => ?_))
      show WP (Ct (d + 2)) 156 Post (44, [some (.ref 39), none], [.int r4], M)
      refine WP.br (.ifCond .ne 6, 3, (50, 0), .null) (by decide +kernel) rfl (fun c5 => ?_) (fun c5 => ?_)
      · replace h := h.2 c5
        refine WP.blk [(.aload_n 0, 1, (0, 0), .null)] (G := True) (c' := (51, [some (.ref 39), none], [.ref 39], M)) (by decide +kernel) rfl trivial ?_
        refine WP.call (.invokevirtual 155, 3, (160, 1), .retAddr 7) (by decide +kernel) rfl (sp_R_know (d := d + 1) h (fun M6 h => ?_))
        show WP (Ct (d + 2)) 156 Post (54, [some (.ref 39), none], [], M6)
        refine WP.blk [(.aload_n 0, 1, (0, 0), .null), (.getfield 22, 3, (7, 6), .null), (.aload_n 0, 1, (0, 0), .null), (.getfield 22, 3, (7, 6), .null)] (G := True) (c' := (62, [some (.ref 39), none], [.ref 44, .ref 44], M6)) (by decide +kernel) rfl trivial ?_
        refine WP.call (.invokestatic 146, 3, (157, 1), .null) (by decide +kernel) rfl (sp_R_gearOf (d := d + 1) (by decide) h (fun r7 h => ?_))
        show WP (Ct (d + 2)) 156 Post (65, [some (.ref 39), none], [.int r7, .ref 44], M6)
        refine WP.call (.invokestatic 158, 3, (161, 2), .null) (by decide +kernel) rfl (sp_R_turnsOf (d := d + 1) (by decide) h (fun r8 h => ?_))
        show WP (Ct (d + 2)) 156 Post (68, [some (.ref 39), none], [.int r8], M6)
        refine WP.blk [(.istore_n 1, 1, (0, 0), .null), (.aload_n 0, 1, (0, 0), .null), (.getfield 22, 3, (7, 6), .null), (.iload_n 1, 1, (0, 0), .null), (.aload_n 0, 1, (0, 0), .null), (.getfield 22, 3, (7, 6), .null), (.iconst 5, 1, (0, 0), .int 5), (.iaload, 1, (0, 0), .null)] (G := vp_in 5 35 ∧ True) (c' := (80, [some (.ref 39), some (.int r8)], [.int (M6 44 (Int32.toNatClampNeg 5)), .int r8, .ref 44], M6)) (by decide +kernel) rfl ⟨(vp_lit (by decide)), trivial⟩ ?_
        refine WP.call (.invokestatic 162, 3, (162, 3), .null) (by decide +kernel) rfl (sp_R_turnOn (d := d + 0) (by decide) h (fun M9 h => ?_))
        show WP (Ct (d + 2)) 156 Post (83, [some (.ref 39), some (.int r8)], [], M9)
        refine WP.blk [(.aload_n 0, 1, (0, 0), .null), (.getfield 22, 3, (7, 6), .null), (.bipush 6, 2, (0, 0), .int 6), (.dup2, 1, (0, 0), .null), (.iaload, 1, (0, 0), .null), (.iconst 1, 1, (0, 0), .int 1), (.iadd, 1, (0, 0), .null), (.iastore, 1, (0, 0), .null)] (G := vp_in 6 35 ∧ vp_in 6 35 ∧ True) (c' := (94, [some (.ref 39), some (.int r8)], [], (mu M9 44 (Int32.toNatClampNeg 6) ((M9 44 (Int32.toNatClampNeg 6)) + 1)))) (by decide +kernel) rfl ⟨(vp_lit (by decide)), (vp_lit (by decide)), trivial⟩ ?_
        replace h := h (mu M9 44 (Int32.toNatClampNeg 6) ((M9 44 (Int32.toNatClampNeg 6)) + 1)) rfl
        generalize (mu M9 44 (Int32.toNatClampNeg 6) ((M9 44 (Int32.toNatClampNeg 6)) + 1)) = M10 at h ⊢
        refine WP.blk [(.iload_n 1, 1, (0, 0), .null)] (G := True) (c' := (95, [some (.ref 39), some (.int r8)], [.int r8], M10)) (by decide +kernel) rfl trivial ?_
        exact WP.ret (.ireturn, 1, (0, 0), .null) (rk := 1) (by decide +kernel) (by decide +kernel) rfl trivial (hΦ _ _ h)
      · replace h := h.1 (Classical.not_not.mp c5)
        refine WP.blk [(.ldc 154, 2, (0, 0), .int (-1000002))] (G := True) (c' := (49, [some (.ref 39), none], [.int (-1000002)], M)) (by decide +kernel) rfl trivial ?_
        exact WP.ret (.ireturn, 1, (0, 0), .null) (rk := 1) (by decide +kernel) (by decide +kernel) rfl trivial (hΦ _ _ h)
/-- GearRoadModel.isCog(I)Z -/
def S_R_isCog (M : Mm) (a1 : Int32) (Φ : Int32 → Prop) : Prop := S_R_in M a1 0 ((M 44 (Int32.toNatClampNeg 2)) - 1) (fun r1 => ((r1 = 0 ∨ r1 = 1) ∧ Φ r1))
set_option maxRecDepth 100000 in
set_option maxHeartbeats 4000000 in
theorem sp_R_isCog {d : Nat} {Post : Option Value → Mm → Prop} {M : Mm} {a1 : Int32} {Φ : Int32 → Prop} (h : S_R_isCog M a1 Φ) (hΦ : ∀ r, Φ r → Post (some (.int r)) M) : Ct (d + 2) 165 [.ref 39, .int a1] M Post := by
  refine Ct.go (n := 2) (E := [some (.ref 39), some (.int a1)]) (by decide +kernel) (by simp [Value.category]) rfl ?_
  refine WP.blk [(.iload_n 1, 1, (0, 0), .null), (.iconst 0, 1, (0, 0), .int 0), (.aload_n 0, 1, (0, 0), .null), (.getfield 22, 3, (7, 6), .null), (.iconst 2, 1, (0, 0), .int 2), (.iaload, 1, (0, 0), .null), (.iconst 1, 1, (0, 0), .int 1), (.isub, 1, (0, 0), .null)] (G := vp_in 2 35 ∧ True) (c' := (10, [some (.ref 39), some (.int a1)], [.int ((M 44 (Int32.toNatClampNeg 2)) - 1), .int 0, .int a1], M)) (by decide +kernel) rfl ⟨(vp_lit (by decide)), trivial⟩ ?_
  refine WP.call (.invokestatic 53, 3, (135, 3), .null) (by decide +kernel) rfl (sp_R_in (d := d + 0) h (fun r1 h => ?_))
  show WP (Ct (d + 1)) 165 Post (13, [some (.ref 39), some (.int a1)], [.int r1], M)
  exact WP.ret (.ireturn, 1, (0, 0), .null) (rk := 2) (by decide +kernel) (by decide +kernel) rfl h.1 (hΦ _ h.2)
/-- GearRoadModel.canLeave([III)Z -/
def D_R_canLeave_16 (k : Nat) (M : Mm) (Φ : Int32 → Prop) : Unit → Prop
  | () => Φ 1
def S_R_canLeave (k : Nat) (M : Mm) (a1 : Int32) (a2 : Int32) (Φ : Int32 → Prop) : Prop := vp_in (11 + a1) 35 ∧ (((M k (Int32.toNatClampNeg (11 + a1))) = 5 → (((irm a2 2) = 0 → D_R_canLeave_16 k M Φ ()) ∧ (¬ ((irm a2 2) = 0) → Φ 0))) ∧ (¬ ((M k (Int32.toNatClampNeg (11 + a1))) = 5) → D_R_canLeave_16 k M Φ ()))
set_option maxRecDepth 100000 in
set_option maxHeartbeats 4000000 in
theorem L_R_canLeave_16 {d : Nat} {Post : Option Value → Mm → Prop} {k : Nat} {M : Mm} {Φ : Int32 → Prop} (hk : k = 44 ∨ k = 45) (hΦ : ∀ r, Φ r → Post (some (.int r)) M) : D_R_canLeave_16 k M Φ () → WP (Ct (d + 0)) 166 Post (16, [none, none, none], [], M) := by
  rcases hk with rfl | rfl
  · intro h
    replace h : Φ 1 := h
    refine WP.blk [(.iconst 1, 1, (0, 0), .int 1), (.goto 4, 3, (21, 0), .null)] (G := True) (c' := (21, [none, none, none], [.int 1], M)) (by decide +kernel) rfl trivial ?_
    exact WP.ret (.ireturn, 1, (0, 0), .null) (rk := 2) (by decide +kernel) (by decide +kernel) rfl (by decide) (hΦ _ h)
  · intro h
    replace h : Φ 1 := h
    refine WP.blk [(.iconst 1, 1, (0, 0), .int 1), (.goto 4, 3, (21, 0), .null)] (G := True) (c' := (21, [none, none, none], [.int 1], M)) (by decide +kernel) rfl trivial ?_
    exact WP.ret (.ireturn, 1, (0, 0), .null) (rk := 2) (by decide +kernel) (by decide +kernel) rfl (by decide) (hΦ _ h)
set_option maxRecDepth 100000 in
set_option maxHeartbeats 4000000 in
theorem sp_R_canLeave {d : Nat} {Post : Option Value → Mm → Prop} {k : Nat} {M : Mm} {a1 : Int32} {a2 : Int32} {Φ : Int32 → Prop} (hk : k = 44 ∨ k = 45) (h : S_R_canLeave k M a1 a2 Φ) (hΦ : ∀ r, Φ r → Post (some (.int r)) M) : Ct (d + 1) 166 [.ref k, .int a1, .int a2] M Post := by
  rcases hk with rfl | rfl
  · refine Ct.go (n := 3) (E := [some (.ref 44), some (.int a1), some (.int a2)]) (by decide +kernel) (by simp [Value.category]) rfl ?_
    refine WP.blk [(.aload_n 0, 1, (0, 0), .null), (.bipush 11, 2, (0, 0), .int 11), (.iload_n 1, 1, (0, 0), .null), (.iadd, 1, (0, 0), .null), (.iaload, 1, (0, 0), .null), (.iconst 5, 1, (0, 0), .int 5)] (G := vp_in (11 + a1) 35 ∧ True) (c' := (7, [some (.ref 44), some (.int a1), some (.int a2)], [.int 5, .int (M 44 (Int32.toNatClampNeg (11 + a1)))], M)) (by decide +kernel) rfl ⟨h.1, trivial⟩ ?_
    replace h := h.2
    refine WP.br (.if_icmp .ne 9, 3, (16, 0), .null) (by decide +kernel) rfl (fun c1 => ?_) (fun c1 => ?_)
    · replace h := h.2 c1
      refine WP.fgt [none, none, none] (by simp [fgt]) ?_
      exact L_R_canLeave_16 (by decide) hΦ h
    · replace h := h.1 (Classical.not_not.mp c1)
      refine WP.blk [(.iload_n 2, 1, (0, 0), .null), (.iconst 2, 1, (0, 0), .int 2), (.irem, 1, (0, 0), .null)] (G := ¬ (2 : Int32) = 0 ∧ True) (c' := (13, [some (.ref 44), some (.int a1), some (.int a2)], [.int (irm a2 2)], M)) (by decide +kernel) rfl ⟨(by decide), trivial⟩ ?_
      refine WP.br (.ifCond .ne 7, 3, (20, 0), .null) (by decide +kernel) rfl (fun c2 => ?_) (fun c2 => ?_)
      · replace h := h.2 c2
        refine WP.blk [(.iconst 0, 1, (0, 0), .int 0)] (G := True) (c' := (21, [some (.ref 44), some (.int a1), some (.int a2)], [.int 0], M)) (by decide +kernel) rfl trivial ?_
        exact WP.ret (.ireturn, 1, (0, 0), .null) (rk := 2) (by decide +kernel) (by decide +kernel) rfl (by decide) (hΦ _ h)
      · replace h := h.1 (Classical.not_not.mp c2)
        refine WP.fgt [none, none, none] (by simp [fgt]) ?_
        exact L_R_canLeave_16 (by decide) hΦ h
  · refine Ct.go (n := 3) (E := [some (.ref 45), some (.int a1), some (.int a2)]) (by decide +kernel) (by simp [Value.category]) rfl ?_
    refine WP.blk [(.aload_n 0, 1, (0, 0), .null), (.bipush 11, 2, (0, 0), .int 11), (.iload_n 1, 1, (0, 0), .null), (.iadd, 1, (0, 0), .null), (.iaload, 1, (0, 0), .null), (.iconst 5, 1, (0, 0), .int 5)] (G := vp_in (11 + a1) 35 ∧ True) (c' := (7, [some (.ref 45), some (.int a1), some (.int a2)], [.int 5, .int (M 45 (Int32.toNatClampNeg (11 + a1)))], M)) (by decide +kernel) rfl ⟨h.1, trivial⟩ ?_
    replace h := h.2
    refine WP.br (.if_icmp .ne 9, 3, (16, 0), .null) (by decide +kernel) rfl (fun c1 => ?_) (fun c1 => ?_)
    · replace h := h.2 c1
      refine WP.fgt [none, none, none] (by simp [fgt]) ?_
      exact L_R_canLeave_16 (by decide) hΦ h
    · replace h := h.1 (Classical.not_not.mp c1)
      refine WP.blk [(.iload_n 2, 1, (0, 0), .null), (.iconst 2, 1, (0, 0), .int 2), (.irem, 1, (0, 0), .null)] (G := ¬ (2 : Int32) = 0 ∧ True) (c' := (13, [some (.ref 45), some (.int a1), some (.int a2)], [.int (irm a2 2)], M)) (by decide +kernel) rfl ⟨(by decide), trivial⟩ ?_
      refine WP.br (.ifCond .ne 7, 3, (20, 0), .null) (by decide +kernel) rfl (fun c2 => ?_) (fun c2 => ?_)
      · replace h := h.2 c2
        refine WP.blk [(.iconst 0, 1, (0, 0), .int 0)] (G := True) (c' := (21, [some (.ref 45), some (.int a1), some (.int a2)], [.int 0], M)) (by decide +kernel) rfl trivial ?_
        exact WP.ret (.ireturn, 1, (0, 0), .null) (rk := 2) (by decide +kernel) (by decide +kernel) rfl (by decide) (hΦ _ h)
      · replace h := h.1 (Classical.not_not.mp c2)
        refine WP.fgt [none, none, none] (by simp [fgt]) ?_
        exact L_R_canLeave_16 (by decide) hΦ h
/-- GearRoadModel.shiftOnto([II)I -/
def S_R_shiftOnto (k : Nat) (M : Mm) (a1 : Int32) (Φ : Int32 → Prop) : Prop := vp_in (11 + a1) 35 ∧ (((M k (Int32.toNatClampNeg (11 + a1))) = 3 → Φ 1) ∧ (¬ ((M k (Int32.toNatClampNeg (11 + a1))) = 3) → Φ 3))
set_option maxRecDepth 100000 in
set_option maxHeartbeats 4000000 in
theorem sp_R_shiftOnto {d : Nat} {Post : Option Value → Mm → Prop} {k : Nat} {M : Mm} {a1 : Int32} {Φ : Int32 → Prop} (hk : k = 44 ∨ k = 45) (h : S_R_shiftOnto k M a1 Φ) (hΦ : ∀ r, Φ r → Post (some (.int r)) M) : Ct (d + 1) 167 [.ref k, .int a1] M Post := by
  rcases hk with rfl | rfl
  · refine Ct.go (n := 2) (E := [some (.ref 44), some (.int a1)]) (by decide +kernel) (by simp [Value.category]) rfl ?_
    refine WP.blk [(.aload_n 0, 1, (0, 0), .null), (.bipush 11, 2, (0, 0), .int 11), (.iload_n 1, 1, (0, 0), .null), (.iadd, 1, (0, 0), .null), (.iaload, 1, (0, 0), .null), (.iconst 3, 1, (0, 0), .int 3)] (G := vp_in (11 + a1) 35 ∧ True) (c' := (7, [some (.ref 44), some (.int a1)], [.int 3, .int (M 44 (Int32.toNatClampNeg (11 + a1)))], M)) (by decide +kernel) rfl ⟨h.1, trivial⟩ ?_
    replace h := h.2
    refine WP.br (.if_icmp .ne 7, 3, (14, 0), .null) (by decide +kernel) rfl (fun c1 => ?_) (fun c1 => ?_)
    · replace h := h.2 c1
      refine WP.blk [(.iconst 3, 1, (0, 0), .int 3)] (G := True) (c' := (15, [some (.ref 44), some (.int a1)], [.int 3], M)) (by decide +kernel) rfl trivial ?_
      exact WP.ret (.ireturn, 1, (0, 0), .null) (rk := 1) (by decide +kernel) (by decide +kernel) rfl trivial (hΦ _ h)
    · replace h := h.1 (Classical.not_not.mp c1)
      refine WP.blk [(.iconst 1, 1, (0, 0), .int 1), (.goto 4, 3, (15, 0), .null)] (G := True) (c' := (15, [some (.ref 44), some (.int a1)], [.int 1], M)) (by decide +kernel) rfl trivial ?_
      exact WP.ret (.ireturn, 1, (0, 0), .null) (rk := 1) (by decide +kernel) (by decide +kernel) rfl trivial (hΦ _ h)
  · refine Ct.go (n := 2) (E := [some (.ref 45), some (.int a1)]) (by decide +kernel) (by simp [Value.category]) rfl ?_
    refine WP.blk [(.aload_n 0, 1, (0, 0), .null), (.bipush 11, 2, (0, 0), .int 11), (.iload_n 1, 1, (0, 0), .null), (.iadd, 1, (0, 0), .null), (.iaload, 1, (0, 0), .null), (.iconst 3, 1, (0, 0), .int 3)] (G := vp_in (11 + a1) 35 ∧ True) (c' := (7, [some (.ref 45), some (.int a1)], [.int 3, .int (M 45 (Int32.toNatClampNeg (11 + a1)))], M)) (by decide +kernel) rfl ⟨h.1, trivial⟩ ?_
    replace h := h.2
    refine WP.br (.if_icmp .ne 7, 3, (14, 0), .null) (by decide +kernel) rfl (fun c1 => ?_) (fun c1 => ?_)
    · replace h := h.2 c1
      refine WP.blk [(.iconst 3, 1, (0, 0), .int 3)] (G := True) (c' := (15, [some (.ref 45), some (.int a1)], [.int 3], M)) (by decide +kernel) rfl trivial ?_
      exact WP.ret (.ireturn, 1, (0, 0), .null) (rk := 1) (by decide +kernel) (by decide +kernel) rfl trivial (hΦ _ h)
    · replace h := h.1 (Classical.not_not.mp c1)
      refine WP.blk [(.iconst 1, 1, (0, 0), .int 1), (.goto 4, 3, (15, 0), .null)] (G := True) (c' := (15, [some (.ref 45), some (.int a1)], [.int 1], M)) (by decide +kernel) rfl trivial ?_
      exact WP.ret (.ireturn, 1, (0, 0), .null) (rk := 1) (by decide +kernel) (by decide +kernel) rfl trivial (hΦ _ h)
/-- GearRoadModel.shift(I)I -/
def D_R_shift_23 (Φ : Int32 → Mm → Prop) : Int32 × Mm → Prop
  | (x1, M) => S_R_isCog M ((M 44 (Int32.toNatClampNeg 5)) + x1) (fun r2 => ((r2 = 0 → Φ (-1000002) M) ∧ (¬ (r2 = 0) → S_R_canLeave 44 M (M 44 (Int32.toNatClampNeg 5)) (M 44 (Int32.toNatClampNeg 6)) (fun r4 => ((r4 = 0 → Φ (-1000002) M) ∧ (¬ (r4 = 0) → S_R_know M (fun M6 => (∀ M7, M7 = mu M6 44 (Int32.toNatClampNeg 5) ((M 44 (Int32.toNatClampNeg 5)) + x1) → S_R_shiftOnto 44 M7 ((M 44 (Int32.toNatClampNeg 5)) + x1) (fun r8 => S_R_turnOn 44 M7 r8 ((M 44 (Int32.toNatClampNeg 5)) + x1) (fun M9 => Φ ((M 44 (Int32.toNatClampNeg 5)) + x1) M9))))))))))
def S_R_shift (M : Mm) (a1 : Int32) (Φ : Int32 → Mm → Prop) : Prop := (((M 39 5) = 0 → Φ (-1000002) M) ∧ (¬ ((M 39 5) = 0) → ((a1 = 1 → D_R_shift_23 Φ (a1, M)) ∧ (¬ (a1 = 1) → ((a1 = (-1) → D_R_shift_23 Φ (a1, M)) ∧ (¬ (a1 = (-1)) → Φ (-1000001) M))))))
set_option maxRecDepth 100000 in
set_option maxHeartbeats 4000000 in
theorem L_R_shift_23 {d : Nat} {Post : Option Value → Mm → Prop} {Φ : Int32 → Mm → Prop} (hΦ : ∀ r M1, Φ r M1 → Post (some (.int r)) M1) : ∀ (x1 : Int32) (M : Mm), D_R_shift_23 Φ (x1, M) → WP (Ct (d + 2)) 164 Post (23, [some (.ref 39), some (.int x1), none], [], M) := by
  intro x1 M h
  replace h : S_R_isCog M ((M 44 (Int32.toNatClampNeg 5)) + x1) (fun r2 => ((r2 = 0 → Φ (-1000002) M) ∧ (¬ (r2 = 0) → S_R_canLeave 44 M (M 44 (Int32.toNatClampNeg 5)) (M 44 (Int32.toNatClampNeg 6)) (fun r4 => ((r4 = 0 → Φ (-1000002) M) ∧ (¬ (r4 = 0) → S_R_know M (fun M6 => (∀ M7, M7 = mu M6 44 (Int32.toNatClampNeg 5) ((M 44 (Int32.toNatClampNeg 5)) + x1) → S_R_shiftOnto 44 M7 ((M 44 (Int32.toNatClampNeg 5)) + x1) (fun r8 => S_R_turnOn 44 M7 r8 ((M 44 (Int32.toNatClampNeg 5)) + x1) (fun M9 => Φ ((M 44 (Int32.toNatClampNeg 5)) + x1) M9)))))))))) := h
  refine WP.blk [(.aload_n 0, 1, (0, 0), .null), (.getfield 22, 3, (7, 6), .null), (.iconst 5, 1, (0, 0), .int 5), (.iaload, 1, (0, 0), .null), (.iload_n 1, 1, (0, 0), .null), (.iadd, 1, (0, 0), .null), (.istore_n 2, 1, (0, 0), .null), (.aload_n 0, 1, (0, 0), .null), (.iload_n 2, 1, (0, 0), .null)] (G := vp_in 5 35 ∧ True) (c' := (34, [some (.ref 39), some (.int x1), some (.int ((M 44 (Int32.toNatClampNeg 5)) + x1))], [.int ((M 44 (Int32.toNatClampNeg 5)) + x1), .ref 39], M)) (by decide +kernel) rfl ⟨(vp_lit (by decide)), trivial⟩ ?_
  refine WP.call (.invokevirtual 166, 3, (165, 2), .retAddr 7) (by decide +kernel) rfl (sp_R_isCog (d := d + 0) h (fun r2 h => ?_))
  show WP (Ct (d + 2)) 164 Post (37, [some (.ref 39), some (.int x1), some (.int ((M 44 (Int32.toNatClampNeg 5)) + x1))], [.int r2], M)
  refine WP.br (.ifCond .eq 26, 3, (63, 0), .null) (by decide +kernel) rfl (fun c3 => ?_) (fun c3 => ?_)
  · replace h := h.1 c3
    refine WP.blk [(.ldc 154, 2, (0, 0), .int (-1000002))] (G := True) (c' := (65, [some (.ref 39), some (.int x1), some (.int ((M 44 (Int32.toNatClampNeg 5)) + x1))], [.int (-1000002)], M)) (by decide +kernel) rfl trivial ?_
    exact WP.ret (.ireturn, 1, (0, 0), .null) (rk := 1) (by decide +kernel) (by decide +kernel) rfl trivial (hΦ _ _ h)
  · replace h := h.2 c3
    refine WP.blk [(.aload_n 0, 1, (0, 0), .null), (.getfield 22, 3, (7, 6), .null), (.aload_n 0, 1, (0, 0), .null), (.getfield 22, 3, (7, 6), .null), (.iconst 5, 1, (0, 0), .int 5), (.iaload, 1, (0, 0), .null), (.aload_n 0, 1, (0, 0), .null), (.getfield 22, 3, (7, 6), .null), (.bipush 6, 2, (0, 0), .int 6), (.iaload, 1, (0, 0), .null)] (G := vp_in 5 35 ∧ vp_in 6 35 ∧ True) (c' := (57, [some (.ref 39), some (.int x1), some (.int ((M 44 (Int32.toNatClampNeg 5)) + x1))], [.int (M 44 (Int32.toNatClampNeg 6)), .int (M 44 (Int32.toNatClampNeg 5)), .ref 44], M)) (by decide +kernel) rfl ⟨(vp_lit (by decide)), (vp_lit (by decide)), trivial⟩ ?_
    refine WP.call (.invokestatic 169, 3, (166, 3), .null) (by decide +kernel) rfl (sp_R_canLeave (d := d + 1) (by decide) h (fun r4 h => ?_))
    show WP (Ct (d + 2)) 164 Post (60, [some (.ref 39), some (.int x1), some (.int ((M 44 (Int32.toNatClampNeg 5)) + x1))], [.int r4], M)
    refine WP.br (.ifCond .ne 6, 3, (66, 0), .null) (by decide +kernel) rfl (fun c5 => ?_) (fun c5 => ?_)
    · replace h := h.2 c5
      refine WP.blk [(.aload_n 0, 1, (0, 0), .null)] (G := True) (c' := (67, [some (.ref 39), some (.int x1), some (.int ((M 44 (Int32.toNatClampNeg 5)) + x1))], [.ref 39], M)) (by decide +kernel) rfl trivial ?_
      refine WP.call (.invokevirtual 155, 3, (160, 1), .retAddr 7) (by decide +kernel) rfl (sp_R_know (d := d + 1) h (fun M6 h => ?_))
      show WP (Ct (d + 2)) 164 Post (70, [some (.ref 39), some (.int x1), some (.int ((M 44 (Int32.toNatClampNeg 5)) + x1))], [], M6)
      refine WP.blk [(.aload_n 0, 1, (0, 0), .null), (.getfield 22, 3, (7, 6), .null), (.iconst 5, 1, (0, 0), .int 5), (.iload_n 2, 1, (0, 0), .null), (.iastore, 1, (0, 0), .null)] (G := vp_in 5 35 ∧ True) (c' := (77, [some (.ref 39), some (.int x1), some (.int ((M 44 (Int32.toNatClampNeg 5)) + x1))], [], (mu M6 44 (Int32.toNatClampNeg 5) ((M 44 (Int32.toNatClampNeg 5)) + x1)))) (by decide +kernel) rfl ⟨(vp_lit (by decide)), trivial⟩ ?_
      replace h := h (mu M6 44 (Int32.toNatClampNeg 5) ((M 44 (Int32.toNatClampNeg 5)) + x1)) rfl
      generalize (mu M6 44 (Int32.toNatClampNeg 5) ((M 44 (Int32.toNatClampNeg 5)) + x1)) = M7 at h ⊢
      refine WP.blk [(.aload_n 0, 1, (0, 0), .null), (.getfield 22, 3, (7, 6), .null), (.aload_n 0, 1, (0, 0), .null), (.getfield 22, 3, (7, 6), .null), (.iload_n 2, 1, (0, 0), .null)] (G := True) (c' := (86, [some (.ref 39), some (.int x1), some (.int ((M 44 (Int32.toNatClampNeg 5)) + x1))], [.int ((M 44 (Int32.toNatClampNeg 5)) + x1), .ref 44, .ref 44], M7)) (by decide +kernel) rfl trivial ?_
      refine WP.call (.invokestatic 172, 3, (167, 2), .null) (by decide +kernel) rfl (sp_R_shiftOnto (d := d + 1) (by decide) h (fun r8 h => ?_))
      show WP (Ct (d + 2)) 164 Post (89, [some (.ref 39), some (.int x1), some (.int ((M 44 (Int32.toNatClampNeg 5)) + x1))], [.int r8, .ref 44], M7)
      refine WP.blk [(.iload_n 2, 1, (0, 0), .null)] (G := True) (c' := (90, [some (.ref 39), some (.int x1), some (.int ((M 44 (Int32.toNatClampNeg 5)) + x1))], [.int ((M 44 (Int32.toNatClampNeg 5)) + x1), .int r8, .ref 44], M7)) (by decide +kernel) rfl trivial ?_
      refine WP.call (.invokestatic 162, 3, (162, 3), .null) (by decide +kernel) rfl (sp_R_turnOn (d := d + 0) (by decide) h (fun M9 h => ?_))
      show WP (Ct (d + 2)) 164 Post (93, [some (.ref 39), some (.int x1), some (.int ((M 44 (Int32.toNatClampNeg 5)) + x1))], [], M9)
      refine WP.blk [(.iload_n 2, 1, (0, 0), .null)] (G := True) (c' := (94, [some (.ref 39), some (.int x1), some (.int ((M 44 (Int32.toNatClampNeg 5)) + x1))], [.int ((M 44 (Int32.toNatClampNeg 5)) + x1)], M9)) (by decide +kernel) rfl trivial ?_
      exact WP.ret (.ireturn, 1, (0, 0), .null) (rk := 1) (by decide +kernel) (by decide +kernel) rfl trivial (hΦ _ _ h)
    · replace h := h.1 (Classical.not_not.mp c5)
      refine WP.blk [(.ldc 154, 2, (0, 0), .int (-1000002))] (G := True) (c' := (65, [some (.ref 39), some (.int x1), some (.int ((M 44 (Int32.toNatClampNeg 5)) + x1))], [.int (-1000002)], M)) (by decide +kernel) rfl trivial ?_
      exact WP.ret (.ireturn, 1, (0, 0), .null) (rk := 1) (by decide +kernel) (by decide +kernel) rfl trivial (hΦ _ _ h)
set_option maxRecDepth 100000 in
set_option maxHeartbeats 4000000 in
theorem sp_R_shift {d : Nat} {Post : Option Value → Mm → Prop} {M : Mm} {a1 : Int32} {Φ : Int32 → Mm → Prop} (h : S_R_shift M a1 Φ) (hΦ : ∀ r M1, Φ r M1 → Post (some (.int r)) M1) : Ct (d + 3) 164 [.ref 39, .int a1] M Post := by
  refine Ct.go (n := 3) (E := [some (.ref 39), some (.int a1), none]) (by decide +kernel) (by simp [Value.category]) rfl ?_
  refine WP.blk [(.aload_n 0, 1, (0, 0), .null), (.getfield 136, 3, (7, 5), .null)] (G := True) (c' := (4, [some (.ref 39), some (.int a1), none], [.int (M 39 5)], M)) (by decide +kernel) rfl trivial ?_
  refine WP.br (.ifCond .ne 6, 3, (10, 0), .null) (by decide +kernel) rfl (fun c1 => ?_) (fun c1 => ?_)
  · replace h := h.2 c1
    refine WP.blk [(.iload_n 1, 1, (0, 0), .null), (.iconst 1, 1, (0, 0), .int 1)] (G := True) (c' := (12, [some (.ref 39), some (.int a1), none], [.int 1, .int a1], M)) (by decide +kernel) rfl trivial ?_
    refine WP.br (.if_icmp .eq 11, 3, (23, 0), .null) (by decide +kernel) rfl (fun c2 => ?_) (fun c2 => ?_)
    · replace h := h.1 c2
      exact L_R_shift_23 hΦ _ _ h
    · replace h := h.2 c2
      refine WP.blk [(.iload_n 1, 1, (0, 0), .null), (.iconst (-1), 1, (0, 0), .int (-1))] (G := True) (c' := (17, [some (.ref 39), some (.int a1), none], [.int (-1), .int a1], M)) (by decide +kernel) rfl trivial ?_
      refine WP.br (.if_icmp .eq 6, 3, (23, 0), .null) (by decide +kernel) rfl (fun c3 => ?_) (fun c3 => ?_)
      · replace h := h.1 c3
        exact L_R_shift_23 hΦ _ _ h
      · replace h := h.2 c3
        refine WP.blk [(.ldc 61, 2, (0, 0), .int (-1000001))] (G := True) (c' := (22, [some (.ref 39), some (.int a1), none], [.int (-1000001)], M)) (by decide +kernel) rfl trivial ?_
        exact WP.ret (.ireturn, 1, (0, 0), .null) (rk := 1) (by decide +kernel) (by decide +kernel) rfl trivial (hΦ _ _ h)
  · replace h := h.1 (Classical.not_not.mp c1)
    refine WP.blk [(.ldc 154, 2, (0, 0), .int (-1000002))] (G := True) (c' := (9, [some (.ref 39), some (.int a1), none], [.int (-1000002)], M)) (by decide +kernel) rfl trivial ?_
    exact WP.ret (.ireturn, 1, (0, 0), .null) (rk := 1) (by decide +kernel) (by decide +kernel) rfl trivial (hΦ _ _ h)
/-- GearRoadModel.front(I)I -/
def D_R_front_23 (Φ : Int32 → Mm → Prop) : Int32 × Mm → Prop
  | (x1, M) => S_R_in M ((M 44 (Int32.toNatClampNeg 4)) + x1) 0 ((M 44 (Int32.toNatClampNeg 1)) - 1) (fun r2 => ((r2 = 0 → Φ (-1000002) M) ∧ (¬ (r2 = 0) → S_R_know M (fun M4 => (∀ M5, M5 = mu M4 44 (Int32.toNatClampNeg 4) ((M 44 (Int32.toNatClampNeg 4)) + x1) → S_R_turnOn 44 M5 5 (-1) (fun M6 => Φ ((M 44 (Int32.toNatClampNeg 4)) + x1) M6))))))
def S_R_front (M : Mm) (a1 : Int32) (Φ : Int32 → Mm → Prop) : Prop := (((M 39 5) = 0 → Φ (-1000002) M) ∧ (¬ ((M 39 5) = 0) → ((a1 = 1 → D_R_front_23 Φ (a1, M)) ∧ (¬ (a1 = 1) → ((a1 = (-1) → D_R_front_23 Φ (a1, M)) ∧ (¬ (a1 = (-1)) → Φ (-1000001) M))))))
set_option maxRecDepth 100000 in
set_option maxHeartbeats 4000000 in
theorem L_R_front_23 {d : Nat} {Post : Option Value → Mm → Prop} {Φ : Int32 → Mm → Prop} (hΦ : ∀ r M1, Φ r M1 → Post (some (.int r)) M1) : ∀ (x1 : Int32) (M : Mm), D_R_front_23 Φ (x1, M) → WP (Ct (d + 2)) 168 Post (23, [some (.ref 39), some (.int x1), none], [], M) := by
  intro x1 M h
  replace h : S_R_in M ((M 44 (Int32.toNatClampNeg 4)) + x1) 0 ((M 44 (Int32.toNatClampNeg 1)) - 1) (fun r2 => ((r2 = 0 → Φ (-1000002) M) ∧ (¬ (r2 = 0) → S_R_know M (fun M4 => (∀ M5, M5 = mu M4 44 (Int32.toNatClampNeg 4) ((M 44 (Int32.toNatClampNeg 4)) + x1) → S_R_turnOn 44 M5 5 (-1) (fun M6 => Φ ((M 44 (Int32.toNatClampNeg 4)) + x1) M6)))))) := h
  refine WP.blk [(.aload_n 0, 1, (0, 0), .null), (.getfield 22, 3, (7, 6), .null), (.iconst 4, 1, (0, 0), .int 4), (.iaload, 1, (0, 0), .null), (.iload_n 1, 1, (0, 0), .null), (.iadd, 1, (0, 0), .null), (.istore_n 2, 1, (0, 0), .null), (.iload_n 2, 1, (0, 0), .null), (.iconst 0, 1, (0, 0), .int 0), (.aload_n 0, 1, (0, 0), .null), (.getfield 22, 3, (7, 6), .null), (.iconst 1, 1, (0, 0), .int 1), (.iaload, 1, (0, 0), .null), (.iconst 1, 1, (0, 0), .int 1), (.isub, 1, (0, 0), .null)] (G := vp_in 4 35 ∧ vp_in 1 35 ∧ True) (c' := (42, [some (.ref 39), some (.int x1), some (.int ((M 44 (Int32.toNatClampNeg 4)) + x1))], [.int ((M 44 (Int32.toNatClampNeg 1)) - 1), .int 0, .int ((M 44 (Int32.toNatClampNeg 4)) + x1)], M)) (by decide +kernel) rfl ⟨(vp_lit (by decide)), (vp_lit (by decide)), trivial⟩ ?_
  refine WP.call (.invokestatic 53, 3, (135, 3), .null) (by decide +kernel) rfl (sp_R_in (d := d + 1) h (fun r2 h => ?_))
  show WP (Ct (d + 2)) 168 Post (45, [some (.ref 39), some (.int x1), some (.int ((M 44 (Int32.toNatClampNeg 4)) + x1))], [.int r2], M)
  refine WP.br (.ifCond .ne 6, 3, (51, 0), .null) (by decide +kernel) rfl (fun c3 => ?_) (fun c3 => ?_)
  · replace h := h.2 c3
    refine WP.blk [(.aload_n 0, 1, (0, 0), .null)] (G := True) (c' := (52, [some (.ref 39), some (.int x1), some (.int ((M 44 (Int32.toNatClampNeg 4)) + x1))], [.ref 39], M)) (by decide +kernel) rfl trivial ?_
    refine WP.call (.invokevirtual 155, 3, (160, 1), .retAddr 7) (by decide +kernel) rfl (sp_R_know (d := d + 1) h (fun M4 h => ?_))
    show WP (Ct (d + 2)) 168 Post (55, [some (.ref 39), some (.int x1), some (.int ((M 44 (Int32.toNatClampNeg 4)) + x1))], [], M4)
    refine WP.blk [(.aload_n 0, 1, (0, 0), .null), (.getfield 22, 3, (7, 6), .null), (.iconst 4, 1, (0, 0), .int 4), (.iload_n 2, 1, (0, 0), .null), (.iastore, 1, (0, 0), .null)] (G := vp_in 4 35 ∧ True) (c' := (62, [some (.ref 39), some (.int x1), some (.int ((M 44 (Int32.toNatClampNeg 4)) + x1))], [], (mu M4 44 (Int32.toNatClampNeg 4) ((M 44 (Int32.toNatClampNeg 4)) + x1)))) (by decide +kernel) rfl ⟨(vp_lit (by decide)), trivial⟩ ?_
    replace h := h (mu M4 44 (Int32.toNatClampNeg 4) ((M 44 (Int32.toNatClampNeg 4)) + x1)) rfl
    generalize (mu M4 44 (Int32.toNatClampNeg 4) ((M 44 (Int32.toNatClampNeg 4)) + x1)) = M5 at h ⊢
    refine WP.blk [(.aload_n 0, 1, (0, 0), .null), (.getfield 22, 3, (7, 6), .null), (.iconst 5, 1, (0, 0), .int 5), (.iconst (-1), 1, (0, 0), .int (-1))] (G := True) (c' := (68, [some (.ref 39), some (.int x1), some (.int ((M 44 (Int32.toNatClampNeg 4)) + x1))], [.int (-1), .int 5, .ref 44], M5)) (by decide +kernel) rfl trivial ?_
    refine WP.call (.invokestatic 162, 3, (162, 3), .null) (by decide +kernel) rfl (sp_R_turnOn (d := d + 0) (by decide) h (fun M6 h => ?_))
    show WP (Ct (d + 2)) 168 Post (71, [some (.ref 39), some (.int x1), some (.int ((M 44 (Int32.toNatClampNeg 4)) + x1))], [], M6)
    refine WP.blk [(.iload_n 2, 1, (0, 0), .null)] (G := True) (c' := (72, [some (.ref 39), some (.int x1), some (.int ((M 44 (Int32.toNatClampNeg 4)) + x1))], [.int ((M 44 (Int32.toNatClampNeg 4)) + x1)], M6)) (by decide +kernel) rfl trivial ?_
    exact WP.ret (.ireturn, 1, (0, 0), .null) (rk := 1) (by decide +kernel) (by decide +kernel) rfl trivial (hΦ _ _ h)
  · replace h := h.1 (Classical.not_not.mp c3)
    refine WP.blk [(.ldc 154, 2, (0, 0), .int (-1000002))] (G := True) (c' := (50, [some (.ref 39), some (.int x1), some (.int ((M 44 (Int32.toNatClampNeg 4)) + x1))], [.int (-1000002)], M)) (by decide +kernel) rfl trivial ?_
    exact WP.ret (.ireturn, 1, (0, 0), .null) (rk := 1) (by decide +kernel) (by decide +kernel) rfl trivial (hΦ _ _ h)
set_option maxRecDepth 100000 in
set_option maxHeartbeats 4000000 in
theorem sp_R_front {d : Nat} {Post : Option Value → Mm → Prop} {M : Mm} {a1 : Int32} {Φ : Int32 → Mm → Prop} (h : S_R_front M a1 Φ) (hΦ : ∀ r M1, Φ r M1 → Post (some (.int r)) M1) : Ct (d + 3) 168 [.ref 39, .int a1] M Post := by
  refine Ct.go (n := 3) (E := [some (.ref 39), some (.int a1), none]) (by decide +kernel) (by simp [Value.category]) rfl ?_
  refine WP.blk [(.aload_n 0, 1, (0, 0), .null), (.getfield 136, 3, (7, 5), .null)] (G := True) (c' := (4, [some (.ref 39), some (.int a1), none], [.int (M 39 5)], M)) (by decide +kernel) rfl trivial ?_
  refine WP.br (.ifCond .ne 6, 3, (10, 0), .null) (by decide +kernel) rfl (fun c1 => ?_) (fun c1 => ?_)
  · replace h := h.2 c1
    refine WP.blk [(.iload_n 1, 1, (0, 0), .null), (.iconst 1, 1, (0, 0), .int 1)] (G := True) (c' := (12, [some (.ref 39), some (.int a1), none], [.int 1, .int a1], M)) (by decide +kernel) rfl trivial ?_
    refine WP.br (.if_icmp .eq 11, 3, (23, 0), .null) (by decide +kernel) rfl (fun c2 => ?_) (fun c2 => ?_)
    · replace h := h.1 c2
      exact L_R_front_23 hΦ _ _ h
    · replace h := h.2 c2
      refine WP.blk [(.iload_n 1, 1, (0, 0), .null), (.iconst (-1), 1, (0, 0), .int (-1))] (G := True) (c' := (17, [some (.ref 39), some (.int a1), none], [.int (-1), .int a1], M)) (by decide +kernel) rfl trivial ?_
      refine WP.br (.if_icmp .eq 6, 3, (23, 0), .null) (by decide +kernel) rfl (fun c3 => ?_) (fun c3 => ?_)
      · replace h := h.1 c3
        exact L_R_front_23 hΦ _ _ h
      · replace h := h.2 c3
        refine WP.blk [(.ldc 61, 2, (0, 0), .int (-1000001))] (G := True) (c' := (22, [some (.ref 39), some (.int a1), none], [.int (-1000001)], M)) (by decide +kernel) rfl trivial ?_
        exact WP.ret (.ireturn, 1, (0, 0), .null) (rk := 1) (by decide +kernel) (by decide +kernel) rfl trivial (hΦ _ _ h)
  · replace h := h.1 (Classical.not_not.mp c1)
    refine WP.blk [(.ldc 154, 2, (0, 0), .int (-1000002))] (G := True) (c' := (9, [some (.ref 39), some (.int a1), none], [.int (-1000002)], M)) (by decide +kernel) rfl trivial ?_
    exact WP.ret (.ireturn, 1, (0, 0), .null) (rk := 1) (by decide +kernel) (by decide +kernel) rfl trivial (hΦ _ _ h)
/-- GearRoadModel.turnAbout([I)V -/
def D_R_turnAbout_57 (k : Nat) (Φ : Mm → Prop) (rec_57 : Int32 × Int32 × Mm → Prop) : Int32 × Int32 × Mm → Prop
  | (x1, x2, M) => ((x1 ≤ x2 → (∀ M4, M4 = mu M k (Int32.toNatClampNeg 6) (x1 - (M k (Int32.toNatClampNeg 6))) → Φ M4)) ∧ (¬ (x1 ≤ x2) → vp_in (23 + x2) 35 ∧ vp_in (23 + x2) 35 ∧ (∀ M5, M5 = mu M k (Int32.toNatClampNeg (23 + x2)) (9 - (M k (Int32.toNatClampNeg (23 + x2)))) → rec_57 (x1, (x2 + 1), M5))))
def D_R_turnAbout_6 (k : Nat) (Φ : Mm → Prop) (rec_6 : Int32 × Int32 × Mm → Prop) : Int32 × Int32 × Mm → Prop
  | (x1, x2, M) => ((((x1 - 1) - x2) ≤ x2 → ∃ n, lp (D_R_turnAbout_57 k Φ) n (x1, 0, M)) ∧ (¬ (((x1 - 1) - x2) ≤ x2) → vp_in (23 + x2) 35 ∧ vp_in (((23 + x1) - 1) - x2) 35 ∧ vp_in (23 + x2) 35 ∧ (∀ M4, M4 = mu M k (Int32.toNatClampNeg (23 + x2)) (M k (Int32.toNatClampNeg (((23 + x1) - 1) - x2))) → vp_in (((23 + x1) - 1) - x2) 35 ∧ (∀ M5, M5 = mu M4 k (Int32.toNatClampNeg (((23 + x1) - 1) - x2)) (M k (Int32.toNatClampNeg (23 + x2))) → rec_6 (x1, (x2 + 1), M5)))))
def S_R_turnAbout (k : Nat) (M : Mm) (Φ : Mm → Prop) : Prop := ∃ n, lp (D_R_turnAbout_6 k Φ) n ((M k (Int32.toNatClampNeg 3)), 0, M)
set_option maxRecDepth 100000 in
set_option maxHeartbeats 4000000 in
theorem L_R_turnAbout_57 {d : Nat} {Post : Option Value → Mm → Prop} {k : Nat} {rec_57 : Int32 × Int32 × Mm → Prop} {Φ : Mm → Prop} (hk : k = 44 ∨ k = 45) (hΦ : ∀ M1, Φ M1 → Post none M1) (hrec_57 : ∀ (x1 : Int32) (x2 : Int32) (M : Mm), rec_57 (x1, x2, M) → WP (Ct (d + 0)) 170 Post (57, [some (.ref k), some (.int x1), some (.int x2), none], [], M)) : ∀ (x1 : Int32) (x2 : Int32) (M : Mm), D_R_turnAbout_57 k Φ rec_57 (x1, x2, M) → WP (Ct (d + 0)) 170 Post (57, [some (.ref k), some (.int x1), some (.int x2), none], [], M) := by
  rcases hk with rfl | rfl
  · intro x1 x2 M h
    replace h : ((x1 ≤ x2 → (∀ M4, M4 = mu M 44 (Int32.toNatClampNeg 6) (x1 - (M 44 (Int32.toNatClampNeg 6))) → Φ M4)) ∧ (¬ (x1 ≤ x2) → vp_in (23 + x2) 35 ∧ vp_in (23 + x2) 35 ∧ (∀ M5, M5 = mu M 44 (Int32.toNatClampNeg (23 + x2)) (9 - (M 44 (Int32.toNatClampNeg (23 + x2)))) → rec_57 (x1, (x2 + 1), M5)))) := h
    refine WP.blk [(.iload_n 2, 1, (0, 0), .null), (.iload_n 1, 1, (0, 0), .null)] (G := True) (c' := (59, [some (.ref 44), some (.int x1), some (.int x2), none], [.int x1, .int x2], M)) (by decide +kernel) rfl trivial ?_
    refine WP.br (.if_icmp .ge 24, 3, (83, 0), .null) (by decide +kernel) rfl (fun c3 => ?_) (fun c3 => ?_)
    · replace h := h.1 c3
      refine WP.blk [(.aload_n 0, 1, (0, 0), .null), (.bipush 6, 2, (0, 0), .int 6), (.iload_n 1, 1, (0, 0), .null), (.aload_n 0, 1, (0, 0), .null), (.bipush 6, 2, (0, 0), .int 6), (.iaload, 1, (0, 0), .null), (.isub, 1, (0, 0), .null), (.iastore, 1, (0, 0), .null)] (G := vp_in 6 35 ∧ vp_in 6 35 ∧ True) (c' := (93, [some (.ref 44), some (.int x1), some (.int x2), none], [], (mu M 44 (Int32.toNatClampNeg 6) (x1 - (M 44 (Int32.toNatClampNeg 6)))))) (by decide +kernel) rfl ⟨(vp_lit (by decide)), (vp_lit (by decide)), trivial⟩ ?_
      replace h := h (mu M 44 (Int32.toNatClampNeg 6) (x1 - (M 44 (Int32.toNatClampNeg 6)))) rfl
      generalize (mu M 44 (Int32.toNatClampNeg 6) (x1 - (M 44 (Int32.toNatClampNeg 6)))) = M4 at h ⊢
      exact WP.ret (.return_, 1, (0, 0), .null) (rk := 0) (by decide +kernel) (by decide +kernel) rfl trivial (hΦ _ h)
    · replace h := h.2 c3
      refine WP.blk [(.aload_n 0, 1, (0, 0), .null), (.bipush 23, 2, (0, 0), .int 23), (.iload_n 2, 1, (0, 0), .null), (.iadd, 1, (0, 0), .null), (.bipush 9, 2, (0, 0), .int 9), (.aload_n 0, 1, (0, 0), .null), (.bipush 23, 2, (0, 0), .int 23), (.iload_n 2, 1, (0, 0), .null), (.iadd, 1, (0, 0), .null), (.iaload, 1, (0, 0), .null), (.isub, 1, (0, 0), .null), (.iastore, 1, (0, 0), .null)] (G := vp_in (23 + x2) 35 ∧ vp_in (23 + x2) 35 ∧ True) (c' := (77, [some (.ref 44), some (.int x1), some (.int x2), none], [], (mu M 44 (Int32.toNatClampNeg (23 + x2)) (9 - (M 44 (Int32.toNatClampNeg (23 + x2))))))) (by decide +kernel) rfl ⟨h.1, h.2.1, trivial⟩ ?_
      replace h := h.2.2
      replace h := h (mu M 44 (Int32.toNatClampNeg (23 + x2)) (9 - (M 44 (Int32.toNatClampNeg (23 + x2))))) rfl
      generalize (mu M 44 (Int32.toNatClampNeg (23 + x2)) (9 - (M 44 (Int32.toNatClampNeg (23 + x2))))) = M5 at h ⊢
      refine WP.blk [(.iinc 2 1, 3, (0, 0), .int 1), (.goto (-23), 3, (57, 0), .null)] (G := True) (c' := (57, [some (.ref 44), some (.int x1), some (.int (x2 + 1)), none], [], M5)) (by decide +kernel) rfl trivial ?_
      exact hrec_57 _ _ _ h
  · intro x1 x2 M h
    replace h : ((x1 ≤ x2 → (∀ M4, M4 = mu M 45 (Int32.toNatClampNeg 6) (x1 - (M 45 (Int32.toNatClampNeg 6))) → Φ M4)) ∧ (¬ (x1 ≤ x2) → vp_in (23 + x2) 35 ∧ vp_in (23 + x2) 35 ∧ (∀ M5, M5 = mu M 45 (Int32.toNatClampNeg (23 + x2)) (9 - (M 45 (Int32.toNatClampNeg (23 + x2)))) → rec_57 (x1, (x2 + 1), M5)))) := h
    refine WP.blk [(.iload_n 2, 1, (0, 0), .null), (.iload_n 1, 1, (0, 0), .null)] (G := True) (c' := (59, [some (.ref 45), some (.int x1), some (.int x2), none], [.int x1, .int x2], M)) (by decide +kernel) rfl trivial ?_
    refine WP.br (.if_icmp .ge 24, 3, (83, 0), .null) (by decide +kernel) rfl (fun c3 => ?_) (fun c3 => ?_)
    · replace h := h.1 c3
      refine WP.blk [(.aload_n 0, 1, (0, 0), .null), (.bipush 6, 2, (0, 0), .int 6), (.iload_n 1, 1, (0, 0), .null), (.aload_n 0, 1, (0, 0), .null), (.bipush 6, 2, (0, 0), .int 6), (.iaload, 1, (0, 0), .null), (.isub, 1, (0, 0), .null), (.iastore, 1, (0, 0), .null)] (G := vp_in 6 35 ∧ vp_in 6 35 ∧ True) (c' := (93, [some (.ref 45), some (.int x1), some (.int x2), none], [], (mu M 45 (Int32.toNatClampNeg 6) (x1 - (M 45 (Int32.toNatClampNeg 6)))))) (by decide +kernel) rfl ⟨(vp_lit (by decide)), (vp_lit (by decide)), trivial⟩ ?_
      replace h := h (mu M 45 (Int32.toNatClampNeg 6) (x1 - (M 45 (Int32.toNatClampNeg 6)))) rfl
      generalize (mu M 45 (Int32.toNatClampNeg 6) (x1 - (M 45 (Int32.toNatClampNeg 6)))) = M4 at h ⊢
      exact WP.ret (.return_, 1, (0, 0), .null) (rk := 0) (by decide +kernel) (by decide +kernel) rfl trivial (hΦ _ h)
    · replace h := h.2 c3
      refine WP.blk [(.aload_n 0, 1, (0, 0), .null), (.bipush 23, 2, (0, 0), .int 23), (.iload_n 2, 1, (0, 0), .null), (.iadd, 1, (0, 0), .null), (.bipush 9, 2, (0, 0), .int 9), (.aload_n 0, 1, (0, 0), .null), (.bipush 23, 2, (0, 0), .int 23), (.iload_n 2, 1, (0, 0), .null), (.iadd, 1, (0, 0), .null), (.iaload, 1, (0, 0), .null), (.isub, 1, (0, 0), .null), (.iastore, 1, (0, 0), .null)] (G := vp_in (23 + x2) 35 ∧ vp_in (23 + x2) 35 ∧ True) (c' := (77, [some (.ref 45), some (.int x1), some (.int x2), none], [], (mu M 45 (Int32.toNatClampNeg (23 + x2)) (9 - (M 45 (Int32.toNatClampNeg (23 + x2))))))) (by decide +kernel) rfl ⟨h.1, h.2.1, trivial⟩ ?_
      replace h := h.2.2
      replace h := h (mu M 45 (Int32.toNatClampNeg (23 + x2)) (9 - (M 45 (Int32.toNatClampNeg (23 + x2))))) rfl
      generalize (mu M 45 (Int32.toNatClampNeg (23 + x2)) (9 - (M 45 (Int32.toNatClampNeg (23 + x2))))) = M5 at h ⊢
      refine WP.blk [(.iinc 2 1, 3, (0, 0), .int 1), (.goto (-23), 3, (57, 0), .null)] (G := True) (c' := (57, [some (.ref 45), some (.int x1), some (.int (x2 + 1)), none], [], M5)) (by decide +kernel) rfl trivial ?_
      exact hrec_57 _ _ _ h
theorem P_R_turnAbout_57 {d : Nat} {Post : Option Value → Mm → Prop} {k : Nat} {Φ : Mm → Prop} (hk : k = 44 ∨ k = 45) (hΦ : ∀ M1, Φ M1 → Post none M1) : ∀ (n : Nat) (x1 : Int32) (x2 : Int32) (M : Mm), lp (D_R_turnAbout_57 k Φ) n (x1, x2, M) → WP (Ct (d + 0)) 170 Post (57, [some (.ref k), some (.int x1), some (.int x2), none], [], M)
  | 0, x1, x2, M, h => absurd h (by simp [lp])
  | n + 1, x1, x2, M, h => L_R_turnAbout_57 hk hΦ (P_R_turnAbout_57 hk hΦ n) x1 x2 M h
set_option maxRecDepth 100000 in
set_option maxHeartbeats 4000000 in
theorem L_R_turnAbout_6 {d : Nat} {Post : Option Value → Mm → Prop} {k : Nat} {rec_6 : Int32 × Int32 × Mm → Prop} {Φ : Mm → Prop} (hk : k = 44 ∨ k = 45) (hΦ : ∀ M1, Φ M1 → Post none M1) (hrec_6 : ∀ (x1 : Int32) (x2 : Int32) (M : Mm), rec_6 (x1, x2, M) → WP (Ct (d + 0)) 170 Post (6, [some (.ref k), some (.int x1), some (.int x2), none], [], M)) : ∀ (x1 : Int32) (x2 : Int32) (M : Mm), D_R_turnAbout_6 k Φ rec_6 (x1, x2, M) → WP (Ct (d + 0)) 170 Post (6, [some (.ref k), some (.int x1), some (.int x2), none], [], M) := by
  rcases hk with rfl | rfl
  · intro x1 x2 M h
    replace h : ((((x1 - 1) - x2) ≤ x2 → ∃ n, lp (D_R_turnAbout_57 44 Φ) n (x1, 0, M)) ∧ (¬ (((x1 - 1) - x2) ≤ x2) → vp_in (23 + x2) 35 ∧ vp_in (((23 + x1) - 1) - x2) 35 ∧ vp_in (23 + x2) 35 ∧ (∀ M4, M4 = mu M 44 (Int32.toNatClampNeg (23 + x2)) (M 44 (Int32.toNatClampNeg (((23 + x1) - 1) - x2))) → vp_in (((23 + x1) - 1) - x2) 35 ∧ (∀ M5, M5 = mu M4 44 (Int32.toNatClampNeg (((23 + x1) - 1) - x2)) (M 44 (Int32.toNatClampNeg (23 + x2))) → rec_6 (x1, (x2 + 1), M5))))) := h
    refine WP.blk [(.iload_n 2, 1, (0, 0), .null), (.iload_n 1, 1, (0, 0), .null), (.iconst 1, 1, (0, 0), .int 1), (.isub, 1, (0, 0), .null), (.iload_n 2, 1, (0, 0), .null), (.isub, 1, (0, 0), .null)] (G := True) (c' := (12, [some (.ref 44), some (.int x1), some (.int x2), none], [.int ((x1 - 1) - x2), .int x2], M)) (by decide +kernel) rfl trivial ?_
    refine WP.br (.if_icmp .ge 43, 3, (55, 0), .null) (by decide +kernel) rfl (fun c3 => ?_) (fun c3 => ?_)
    · replace h := h.1 c3
      refine WP.blk [(.iconst 0, 1, (0, 0), .int 0), (.istore_n 2, 1, (0, 0), .null)] (G := True) (c' := (57, [some (.ref 44), some (.int x1), some (.int 0), none], [], M)) (by decide +kernel) rfl trivial ?_
      obtain ⟨n, h⟩ := h
      exact P_R_turnAbout_57 (by decide) hΦ n _ _ _ h
    · replace h := h.2 c3
      refine WP.blk [(.aload_n 0, 1, (0, 0), .null), (.bipush 23, 2, (0, 0), .int 23), (.iload_n 2, 1, (0, 0), .null), (.iadd, 1, (0, 0), .null), (.iaload, 1, (0, 0), .null), (.istore_n 3, 1, (0, 0), .null), (.aload_n 0, 1, (0, 0), .null), (.bipush 23, 2, (0, 0), .int 23), (.iload_n 2, 1, (0, 0), .null), (.iadd, 1, (0, 0), .null), (.aload_n 0, 1, (0, 0), .null), (.bipush 23, 2, (0, 0), .int 23), (.iload_n 1, 1, (0, 0), .null), (.iadd, 1, (0, 0), .null), (.iconst 1, 1, (0, 0), .int 1), (.isub, 1, (0, 0), .null), (.iload_n 2, 1, (0, 0), .null), (.isub, 1, (0, 0), .null), (.iaload, 1, (0, 0), .null), (.iastore, 1, (0, 0), .null)] (G := vp_in (23 + x2) 35 ∧ vp_in (((23 + x1) - 1) - x2) 35 ∧ vp_in (23 + x2) 35 ∧ True) (c' := (38, [some (.ref 44), some (.int x1), some (.int x2), some (.int (M 44 (Int32.toNatClampNeg (23 + x2))))], [], (mu M 44 (Int32.toNatClampNeg (23 + x2)) (M 44 (Int32.toNatClampNeg (((23 + x1) - 1) - x2)))))) (by decide +kernel) rfl ⟨h.1, h.2.1, h.2.2.1, trivial⟩ ?_
      replace h := h.2.2.2
      replace h := h (mu M 44 (Int32.toNatClampNeg (23 + x2)) (M 44 (Int32.toNatClampNeg (((23 + x1) - 1) - x2)))) rfl
      generalize (mu M 44 (Int32.toNatClampNeg (23 + x2)) (M 44 (Int32.toNatClampNeg (((23 + x1) - 1) - x2)))) = M4 at h ⊢
      refine WP.blk [(.aload_n 0, 1, (0, 0), .null), (.bipush 23, 2, (0, 0), .int 23), (.iload_n 1, 1, (0, 0), .null), (.iadd, 1, (0, 0), .null), (.iconst 1, 1, (0, 0), .int 1), (.isub, 1, (0, 0), .null), (.iload_n 2, 1, (0, 0), .null), (.isub, 1, (0, 0), .null), (.iload_n 3, 1, (0, 0), .null), (.iastore, 1, (0, 0), .null)] (G := vp_in (((23 + x1) - 1) - x2) 35 ∧ True) (c' := (49, [some (.ref 44), some (.int x1), some (.int x2), some (.int (M 44 (Int32.toNatClampNeg (23 + x2))))], [], (mu M4 44 (Int32.toNatClampNeg (((23 + x1) - 1) - x2)) (M 44 (Int32.toNatClampNeg (23 + x2)))))) (by decide +kernel) rfl ⟨h.1, trivial⟩ ?_
      replace h := h.2
      replace h := h (mu M4 44 (Int32.toNatClampNeg (((23 + x1) - 1) - x2)) (M 44 (Int32.toNatClampNeg (23 + x2)))) rfl
      generalize (mu M4 44 (Int32.toNatClampNeg (((23 + x1) - 1) - x2)) (M 44 (Int32.toNatClampNeg (23 + x2)))) = M5 at h ⊢
      refine WP.blk [(.iinc 2 1, 3, (0, 0), .int 1), (.goto (-46), 3, (6, 0), .null)] (G := True) (c' := (6, [some (.ref 44), some (.int x1), some (.int (x2 + 1)), some (.int (M 44 (Int32.toNatClampNeg (23 + x2))))], [], M5)) (by decide +kernel) rfl trivial ?_
      refine WP.fgt [some (.ref 44), some (.int x1), some (.int (x2 + 1)), none] (by simp [fgt]) ?_
      exact hrec_6 _ _ _ h
  · intro x1 x2 M h
    replace h : ((((x1 - 1) - x2) ≤ x2 → ∃ n, lp (D_R_turnAbout_57 45 Φ) n (x1, 0, M)) ∧ (¬ (((x1 - 1) - x2) ≤ x2) → vp_in (23 + x2) 35 ∧ vp_in (((23 + x1) - 1) - x2) 35 ∧ vp_in (23 + x2) 35 ∧ (∀ M4, M4 = mu M 45 (Int32.toNatClampNeg (23 + x2)) (M 45 (Int32.toNatClampNeg (((23 + x1) - 1) - x2))) → vp_in (((23 + x1) - 1) - x2) 35 ∧ (∀ M5, M5 = mu M4 45 (Int32.toNatClampNeg (((23 + x1) - 1) - x2)) (M 45 (Int32.toNatClampNeg (23 + x2))) → rec_6 (x1, (x2 + 1), M5))))) := h
    refine WP.blk [(.iload_n 2, 1, (0, 0), .null), (.iload_n 1, 1, (0, 0), .null), (.iconst 1, 1, (0, 0), .int 1), (.isub, 1, (0, 0), .null), (.iload_n 2, 1, (0, 0), .null), (.isub, 1, (0, 0), .null)] (G := True) (c' := (12, [some (.ref 45), some (.int x1), some (.int x2), none], [.int ((x1 - 1) - x2), .int x2], M)) (by decide +kernel) rfl trivial ?_
    refine WP.br (.if_icmp .ge 43, 3, (55, 0), .null) (by decide +kernel) rfl (fun c3 => ?_) (fun c3 => ?_)
    · replace h := h.1 c3
      refine WP.blk [(.iconst 0, 1, (0, 0), .int 0), (.istore_n 2, 1, (0, 0), .null)] (G := True) (c' := (57, [some (.ref 45), some (.int x1), some (.int 0), none], [], M)) (by decide +kernel) rfl trivial ?_
      obtain ⟨n, h⟩ := h
      exact P_R_turnAbout_57 (by decide) hΦ n _ _ _ h
    · replace h := h.2 c3
      refine WP.blk [(.aload_n 0, 1, (0, 0), .null), (.bipush 23, 2, (0, 0), .int 23), (.iload_n 2, 1, (0, 0), .null), (.iadd, 1, (0, 0), .null), (.iaload, 1, (0, 0), .null), (.istore_n 3, 1, (0, 0), .null), (.aload_n 0, 1, (0, 0), .null), (.bipush 23, 2, (0, 0), .int 23), (.iload_n 2, 1, (0, 0), .null), (.iadd, 1, (0, 0), .null), (.aload_n 0, 1, (0, 0), .null), (.bipush 23, 2, (0, 0), .int 23), (.iload_n 1, 1, (0, 0), .null), (.iadd, 1, (0, 0), .null), (.iconst 1, 1, (0, 0), .int 1), (.isub, 1, (0, 0), .null), (.iload_n 2, 1, (0, 0), .null), (.isub, 1, (0, 0), .null), (.iaload, 1, (0, 0), .null), (.iastore, 1, (0, 0), .null)] (G := vp_in (23 + x2) 35 ∧ vp_in (((23 + x1) - 1) - x2) 35 ∧ vp_in (23 + x2) 35 ∧ True) (c' := (38, [some (.ref 45), some (.int x1), some (.int x2), some (.int (M 45 (Int32.toNatClampNeg (23 + x2))))], [], (mu M 45 (Int32.toNatClampNeg (23 + x2)) (M 45 (Int32.toNatClampNeg (((23 + x1) - 1) - x2)))))) (by decide +kernel) rfl ⟨h.1, h.2.1, h.2.2.1, trivial⟩ ?_
      replace h := h.2.2.2
      replace h := h (mu M 45 (Int32.toNatClampNeg (23 + x2)) (M 45 (Int32.toNatClampNeg (((23 + x1) - 1) - x2)))) rfl
      generalize (mu M 45 (Int32.toNatClampNeg (23 + x2)) (M 45 (Int32.toNatClampNeg (((23 + x1) - 1) - x2)))) = M4 at h ⊢
      refine WP.blk [(.aload_n 0, 1, (0, 0), .null), (.bipush 23, 2, (0, 0), .int 23), (.iload_n 1, 1, (0, 0), .null), (.iadd, 1, (0, 0), .null), (.iconst 1, 1, (0, 0), .int 1), (.isub, 1, (0, 0), .null), (.iload_n 2, 1, (0, 0), .null), (.isub, 1, (0, 0), .null), (.iload_n 3, 1, (0, 0), .null), (.iastore, 1, (0, 0), .null)] (G := vp_in (((23 + x1) - 1) - x2) 35 ∧ True) (c' := (49, [some (.ref 45), some (.int x1), some (.int x2), some (.int (M 45 (Int32.toNatClampNeg (23 + x2))))], [], (mu M4 45 (Int32.toNatClampNeg (((23 + x1) - 1) - x2)) (M 45 (Int32.toNatClampNeg (23 + x2)))))) (by decide +kernel) rfl ⟨h.1, trivial⟩ ?_
      replace h := h.2
      replace h := h (mu M4 45 (Int32.toNatClampNeg (((23 + x1) - 1) - x2)) (M 45 (Int32.toNatClampNeg (23 + x2)))) rfl
      generalize (mu M4 45 (Int32.toNatClampNeg (((23 + x1) - 1) - x2)) (M 45 (Int32.toNatClampNeg (23 + x2)))) = M5 at h ⊢
      refine WP.blk [(.iinc 2 1, 3, (0, 0), .int 1), (.goto (-46), 3, (6, 0), .null)] (G := True) (c' := (6, [some (.ref 45), some (.int x1), some (.int (x2 + 1)), some (.int (M 45 (Int32.toNatClampNeg (23 + x2))))], [], M5)) (by decide +kernel) rfl trivial ?_
      refine WP.fgt [some (.ref 45), some (.int x1), some (.int (x2 + 1)), none] (by simp [fgt]) ?_
      exact hrec_6 _ _ _ h
theorem P_R_turnAbout_6 {d : Nat} {Post : Option Value → Mm → Prop} {k : Nat} {Φ : Mm → Prop} (hk : k = 44 ∨ k = 45) (hΦ : ∀ M1, Φ M1 → Post none M1) : ∀ (n : Nat) (x1 : Int32) (x2 : Int32) (M : Mm), lp (D_R_turnAbout_6 k Φ) n (x1, x2, M) → WP (Ct (d + 0)) 170 Post (6, [some (.ref k), some (.int x1), some (.int x2), none], [], M)
  | 0, x1, x2, M, h => absurd h (by simp [lp])
  | n + 1, x1, x2, M, h => L_R_turnAbout_6 hk hΦ (P_R_turnAbout_6 hk hΦ n) x1 x2 M h
set_option maxRecDepth 100000 in
set_option maxHeartbeats 4000000 in
theorem sp_R_turnAbout {d : Nat} {Post : Option Value → Mm → Prop} {k : Nat} {M : Mm} {Φ : Mm → Prop} (hk : k = 44 ∨ k = 45) (h : S_R_turnAbout k M Φ) (hΦ : ∀ M1, Φ M1 → Post none M1) : Ct (d + 1) 170 [.ref k] M Post := by
  rcases hk with rfl | rfl
  · refine Ct.go (n := 4) (E := [some (.ref 44), none, none, none]) (by decide +kernel) (by simp [Value.category]) rfl ?_
    refine WP.blk [(.aload_n 0, 1, (0, 0), .null), (.iconst 3, 1, (0, 0), .int 3), (.iaload, 1, (0, 0), .null), (.istore_n 1, 1, (0, 0), .null), (.iconst 0, 1, (0, 0), .int 0), (.istore_n 2, 1, (0, 0), .null)] (G := vp_in 3 35 ∧ True) (c' := (6, [some (.ref 44), some (.int (M 44 (Int32.toNatClampNeg 3))), some (.int 0), none], [], M)) (by decide +kernel) rfl ⟨(vp_lit (by decide)), trivial⟩ ?_
    obtain ⟨n, h⟩ := h
    exact P_R_turnAbout_6 (by decide) hΦ n _ _ _ h
  · refine Ct.go (n := 4) (E := [some (.ref 45), none, none, none]) (by decide +kernel) (by simp [Value.category]) rfl ?_
    refine WP.blk [(.aload_n 0, 1, (0, 0), .null), (.iconst 3, 1, (0, 0), .int 3), (.iaload, 1, (0, 0), .null), (.istore_n 1, 1, (0, 0), .null), (.iconst 0, 1, (0, 0), .int 0), (.istore_n 2, 1, (0, 0), .null)] (G := vp_in 3 35 ∧ True) (c' := (6, [some (.ref 45), some (.int (M 45 (Int32.toNatClampNeg 3))), some (.int 0), none], [], M)) (by decide +kernel) rfl ⟨(vp_lit (by decide)), trivial⟩ ?_
    obtain ⟨n, h⟩ := h
    exact P_R_turnAbout_6 (by decide) hΦ n _ _ _ h
/-- GearRoadModel.about()I -/
def S_R_about (M : Mm) (Φ : Int32 → Mm → Prop) : Prop := (((M 39 5) = 0 → Φ (-1000002) M) ∧ (¬ ((M 39 5) = 0) → S_R_know M (fun M2 => S_R_turnAbout 44 M2 (fun M3 => Φ (M3 44 (Int32.toNatClampNeg 6)) M3))))
set_option maxRecDepth 100000 in
set_option maxHeartbeats 4000000 in
theorem sp_R_about {d : Nat} {Post : Option Value → Mm → Prop} {M : Mm} {Φ : Int32 → Mm → Prop} (h : S_R_about M Φ) (hΦ : ∀ r M1, Φ r M1 → Post (some (.int r)) M1) : Ct (d + 2) 169 [.ref 39] M Post := by
  refine Ct.go (n := 1) (E := [some (.ref 39)]) (by decide +kernel) (by simp [Value.category]) rfl ?_
  refine WP.blk [(.aload_n 0, 1, (0, 0), .null), (.getfield 136, 3, (7, 5), .null)] (G := True) (c' := (4, [some (.ref 39)], [.int (M 39 5)], M)) (by decide +kernel) rfl trivial ?_
  refine WP.br (.ifCond .ne 6, 3, (10, 0), .null) (by decide +kernel) rfl (fun c1 => ?_) (fun c1 => ?_)
  · replace h := h.2 c1
    refine WP.blk [(.aload_n 0, 1, (0, 0), .null)] (G := True) (c' := (11, [some (.ref 39)], [.ref 39], M)) (by decide +kernel) rfl trivial ?_
    refine WP.call (.invokevirtual 155, 3, (160, 1), .retAddr 7) (by decide +kernel) rfl (sp_R_know (d := d + 0) h (fun M2 h => ?_))
    show WP (Ct (d + 1)) 169 Post (14, [some (.ref 39)], [], M2)
    refine WP.blk [(.aload_n 0, 1, (0, 0), .null), (.getfield 22, 3, (7, 6), .null)] (G := True) (c' := (18, [some (.ref 39)], [.ref 44], M2)) (by decide +kernel) rfl trivial ?_
    refine WP.call (.invokestatic 175, 3, (170, 1), .null) (by decide +kernel) rfl (sp_R_turnAbout (d := d + 0) (by decide) h (fun M3 h => ?_))
    show WP (Ct (d + 1)) 169 Post (21, [some (.ref 39)], [], M3)
    refine WP.blk [(.aload_n 0, 1, (0, 0), .null), (.getfield 22, 3, (7, 6), .null), (.bipush 6, 2, (0, 0), .int 6), (.iaload, 1, (0, 0), .null)] (G := vp_in 6 35 ∧ True) (c' := (28, [some (.ref 39)], [.int (M3 44 (Int32.toNatClampNeg 6))], M3)) (by decide +kernel) rfl ⟨(vp_lit (by decide)), trivial⟩ ?_
    exact WP.ret (.ireturn, 1, (0, 0), .null) (rk := 1) (by decide +kernel) (by decide +kernel) rfl trivial (hΦ _ _ h)
  · replace h := h.1 (Classical.not_not.mp c1)
    refine WP.blk [(.ldc 154, 2, (0, 0), .int (-1000002))] (G := True) (c' := (9, [some (.ref 39)], [.int (-1000002)], M)) (by decide +kernel) rfl trivial ?_
    exact WP.ret (.ireturn, 1, (0, 0), .null) (rk := 1) (by decide +kernel) (by decide +kernel) rfl trivial (hΦ _ _ h)
/-- GearRoadModel.strength(I)I -/
def S_R_strength (M : Mm) (a1 : Int32) (Φ : Int32 → Mm → Prop) : Prop := (((M 39 5) = 0 → Φ (-1000002) M) ∧ (¬ ((M 39 5) = 0) → S_R_in M a1 1 99 (fun r2 => ((r2 = 0 → Φ (-1000001) M) ∧ (¬ (r2 = 0) → S_R_know M (fun M4 => (∀ M5, M5 = mu M4 44 (Int32.toNatClampNeg 0) a1 → Φ (M4 44 (Int32.toNatClampNeg 0)) M5)))))))
set_option maxRecDepth 100000 in
set_option maxHeartbeats 4000000 in
theorem sp_R_strength {d : Nat} {Post : Option Value → Mm → Prop} {M : Mm} {a1 : Int32} {Φ : Int32 → Mm → Prop} (h : S_R_strength M a1 Φ) (hΦ : ∀ r M1, Φ r M1 → Post (some (.int r)) M1) : Ct (d + 2) 171 [.ref 39, .int a1] M Post := by
  refine Ct.go (n := 3) (E := [some (.ref 39), some (.int a1), none]) (by decide +kernel) (by simp [Value.category]) rfl ?_
  refine WP.blk [(.aload_n 0, 1, (0, 0), .null), (.getfield 136, 3, (7, 5), .null)] (G := True) (c' := (4, [some (.ref 39), some (.int a1), none], [.int (M 39 5)], M)) (by decide +kernel) rfl trivial ?_
  refine WP.br (.ifCond .ne 6, 3, (10, 0), .null) (by decide +kernel) rfl (fun c1 => ?_) (fun c1 => ?_)
  · replace h := h.2 c1
    refine WP.blk [(.iload_n 1, 1, (0, 0), .null), (.iconst 1, 1, (0, 0), .int 1), (.bipush 99, 2, (0, 0), .int 99)] (G := True) (c' := (14, [some (.ref 39), some (.int a1), none], [.int 99, .int 1, .int a1], M)) (by decide +kernel) rfl trivial ?_
    refine WP.call (.invokestatic 53, 3, (135, 3), .null) (by decide +kernel) rfl (sp_R_in (d := d + 0) h (fun r2 h => ?_))
    show WP (Ct (d + 1)) 171 Post (17, [some (.ref 39), some (.int a1), none], [.int r2], M)
    refine WP.br (.ifCond .ne 6, 3, (23, 0), .null) (by decide +kernel) rfl (fun c3 => ?_) (fun c3 => ?_)
    · replace h := h.2 c3
      refine WP.blk [(.aload_n 0, 1, (0, 0), .null)] (G := True) (c' := (24, [some (.ref 39), some (.int a1), none], [.ref 39], M)) (by decide +kernel) rfl trivial ?_
      refine WP.call (.invokevirtual 155, 3, (160, 1), .retAddr 7) (by decide +kernel) rfl (sp_R_know (d := d + 0) h (fun M4 h => ?_))
      show WP (Ct (d + 1)) 171 Post (27, [some (.ref 39), some (.int a1), none], [], M4)
      refine WP.blk [(.aload_n 0, 1, (0, 0), .null), (.getfield 22, 3, (7, 6), .null), (.iconst 0, 1, (0, 0), .int 0), (.iaload, 1, (0, 0), .null), (.istore_n 2, 1, (0, 0), .null), (.aload_n 0, 1, (0, 0), .null), (.getfield 22, 3, (7, 6), .null), (.iconst 0, 1, (0, 0), .int 0), (.iload_n 1, 1, (0, 0), .null), (.iastore, 1, (0, 0), .null)] (G := vp_in 0 35 ∧ vp_in 0 35 ∧ True) (c' := (41, [some (.ref 39), some (.int a1), some (.int (M4 44 (Int32.toNatClampNeg 0)))], [], (mu M4 44 (Int32.toNatClampNeg 0) a1))) (by decide +kernel) rfl ⟨(vp_lit (by decide)), (vp_lit (by decide)), trivial⟩ ?_
      replace h := h (mu M4 44 (Int32.toNatClampNeg 0) a1) rfl
      generalize (mu M4 44 (Int32.toNatClampNeg 0) a1) = M5 at h ⊢
      refine WP.blk [(.iload_n 2, 1, (0, 0), .null)] (G := True) (c' := (42, [some (.ref 39), some (.int a1), some (.int (M4 44 (Int32.toNatClampNeg 0)))], [.int (M4 44 (Int32.toNatClampNeg 0))], M5)) (by decide +kernel) rfl trivial ?_
      exact WP.ret (.ireturn, 1, (0, 0), .null) (rk := 1) (by decide +kernel) (by decide +kernel) rfl trivial (hΦ _ _ h)
    · replace h := h.1 (Classical.not_not.mp c3)
      refine WP.blk [(.ldc 61, 2, (0, 0), .int (-1000001))] (G := True) (c' := (22, [some (.ref 39), some (.int a1), none], [.int (-1000001)], M)) (by decide +kernel) rfl trivial ?_
      exact WP.ret (.ireturn, 1, (0, 0), .null) (rk := 1) (by decide +kernel) (by decide +kernel) rfl trivial (hΦ _ _ h)
  · replace h := h.1 (Classical.not_not.mp c1)
    refine WP.blk [(.ldc 154, 2, (0, 0), .int (-1000002))] (G := True) (c' := (9, [some (.ref 39), some (.int a1), none], [.int (-1000002)], M)) (by decide +kernel) rfl trivial ?_
    exact WP.ret (.ireturn, 1, (0, 0), .null) (rk := 1) (by decide +kernel) (by decide +kernel) rfl trivial (hΦ _ _ h)
/-- GearRoadModel.isPiece(I)Z -/
def S_R_isPiece (M : Mm) (a1 : Int32) (Φ : Int32 → Prop) : Prop := S_R_in M a1 0 ((M 44 (Int32.toNatClampNeg 3)) - 1) (fun r1 => ((r1 = 0 ∨ r1 = 1) ∧ Φ r1))
set_option maxRecDepth 100000 in
set_option maxHeartbeats 4000000 in
theorem sp_R_isPiece {d : Nat} {Post : Option Value → Mm → Prop} {M : Mm} {a1 : Int32} {Φ : Int32 → Prop} (h : S_R_isPiece M a1 Φ) (hΦ : ∀ r, Φ r → Post (some (.int r)) M) : Ct (d + 2) 173 [.ref 39, .int a1] M Post := by
  refine Ct.go (n := 2) (E := [some (.ref 39), some (.int a1)]) (by decide +kernel) (by simp [Value.category]) rfl ?_
  refine WP.blk [(.iload_n 1, 1, (0, 0), .null), (.iconst 0, 1, (0, 0), .int 0), (.aload_n 0, 1, (0, 0), .null), (.getfield 22, 3, (7, 6), .null), (.iconst 3, 1, (0, 0), .int 3), (.iaload, 1, (0, 0), .null), (.iconst 1, 1, (0, 0), .int 1), (.isub, 1, (0, 0), .null)] (G := vp_in 3 35 ∧ True) (c' := (10, [some (.ref 39), some (.int a1)], [.int ((M 44 (Int32.toNatClampNeg 3)) - 1), .int 0, .int a1], M)) (by decide +kernel) rfl ⟨(vp_lit (by decide)), trivial⟩ ?_
  refine WP.call (.invokestatic 53, 3, (135, 3), .null) (by decide +kernel) rfl (sp_R_in (d := d + 0) h (fun r1 h => ?_))
  show WP (Ct (d + 1)) 173 Post (13, [some (.ref 39), some (.int a1)], [.int r1], M)
  exact WP.ret (.ireturn, 1, (0, 0), .null) (rk := 2) (by decide +kernel) (by decide +kernel) rfl h.1 (hΦ _ h.2)
/-- GearRoadModel.slope(II)I -/
def S_R_slope (M : Mm) (a1 : Int32) (a2 : Int32) (Φ : Int32 → Mm → Prop) : Prop := S_R_isPiece M a1 (fun r1 => ((r1 = 0 → Φ (-1000001) M) ∧ (¬ (r1 = 0) → S_R_in M a2 0 9 (fun r3 => ((r3 = 0 → Φ (-1000001) M) ∧ (¬ (r3 = 0) → S_R_know M (fun M5 => vp_in (23 + a1) 35 ∧ vp_in (23 + a1) 35 ∧ (∀ M6, M6 = mu M5 44 (Int32.toNatClampNeg (23 + a1)) a2 → Φ (M5 44 (Int32.toNatClampNeg (23 + a1))) M6))))))))
set_option maxRecDepth 100000 in
set_option maxHeartbeats 4000000 in
theorem sp_R_slope {d : Nat} {Post : Option Value → Mm → Prop} {M : Mm} {a1 : Int32} {a2 : Int32} {Φ : Int32 → Mm → Prop} (h : S_R_slope M a1 a2 Φ) (hΦ : ∀ r M1, Φ r M1 → Post (some (.int r)) M1) : Ct (d + 3) 172 [.ref 39, .int a1, .int a2] M Post := by
  refine Ct.go (n := 4) (E := [some (.ref 39), some (.int a1), some (.int a2), none]) (by decide +kernel) (by simp [Value.category]) rfl ?_
  refine WP.blk [(.aload_n 0, 1, (0, 0), .null), (.iload_n 1, 1, (0, 0), .null)] (G := True) (c' := (2, [some (.ref 39), some (.int a1), some (.int a2), none], [.int a1, .ref 39], M)) (by decide +kernel) rfl trivial ?_
  refine WP.call (.invokevirtual 179, 3, (173, 2), .retAddr 7) (by decide +kernel) rfl (sp_R_isPiece (d := d + 0) h (fun r1 h => ?_))
  show WP (Ct (d + 2)) 172 Post (5, [some (.ref 39), some (.int a1), some (.int a2), none], [.int r1], M)
  refine WP.br (.ifCond .eq 13, 3, (18, 0), .null) (by decide +kernel) rfl (fun c2 => ?_) (fun c2 => ?_)
  · replace h := h.1 c2
    refine WP.blk [(.ldc 61, 2, (0, 0), .int (-1000001))] (G := True) (c' := (20, [some (.ref 39), some (.int a1), some (.int a2), none], [.int (-1000001)], M)) (by decide +kernel) rfl trivial ?_
    exact WP.ret (.ireturn, 1, (0, 0), .null) (rk := 1) (by decide +kernel) (by decide +kernel) rfl trivial (hΦ _ _ h)
  · replace h := h.2 c2
    refine WP.blk [(.iload_n 2, 1, (0, 0), .null), (.iconst 0, 1, (0, 0), .int 0), (.bipush 9, 2, (0, 0), .int 9)] (G := True) (c' := (12, [some (.ref 39), some (.int a1), some (.int a2), none], [.int 9, .int 0, .int a2], M)) (by decide +kernel) rfl trivial ?_
    refine WP.call (.invokestatic 53, 3, (135, 3), .null) (by decide +kernel) rfl (sp_R_in (d := d + 1) h (fun r3 h => ?_))
    show WP (Ct (d + 2)) 172 Post (15, [some (.ref 39), some (.int a1), some (.int a2), none], [.int r3], M)
    refine WP.br (.ifCond .ne 6, 3, (21, 0), .null) (by decide +kernel) rfl (fun c4 => ?_) (fun c4 => ?_)
    · replace h := h.2 c4
      refine WP.blk [(.aload_n 0, 1, (0, 0), .null)] (G := True) (c' := (22, [some (.ref 39), some (.int a1), some (.int a2), none], [.ref 39], M)) (by decide +kernel) rfl trivial ?_
      refine WP.call (.invokevirtual 155, 3, (160, 1), .retAddr 7) (by decide +kernel) rfl (sp_R_know (d := d + 1) h (fun M5 h => ?_))
      show WP (Ct (d + 2)) 172 Post (25, [some (.ref 39), some (.int a1), some (.int a2), none], [], M5)
      refine WP.blk [(.aload_n 0, 1, (0, 0), .null), (.getfield 22, 3, (7, 6), .null), (.bipush 23, 2, (0, 0), .int 23), (.iload_n 1, 1, (0, 0), .null), (.iadd, 1, (0, 0), .null), (.iaload, 1, (0, 0), .null), (.istore_n 3, 1, (0, 0), .null), (.aload_n 0, 1, (0, 0), .null), (.getfield 22, 3, (7, 6), .null), (.bipush 23, 2, (0, 0), .int 23), (.iload_n 1, 1, (0, 0), .null), (.iadd, 1, (0, 0), .null), (.iload_n 2, 1, (0, 0), .null), (.iastore, 1, (0, 0), .null)] (G := vp_in (23 + a1) 35 ∧ vp_in (23 + a1) 35 ∧ True) (c' := (45, [some (.ref 39), some (.int a1), some (.int a2), some (.int (M5 44 (Int32.toNatClampNeg (23 + a1))))], [], (mu M5 44 (Int32.toNatClampNeg (23 + a1)) a2))) (by decide +kernel) rfl ⟨h.1, h.2.1, trivial⟩ ?_
      replace h := h.2.2
      replace h := h (mu M5 44 (Int32.toNatClampNeg (23 + a1)) a2) rfl
      generalize (mu M5 44 (Int32.toNatClampNeg (23 + a1)) a2) = M6 at h ⊢
      refine WP.blk [(.iload_n 3, 1, (0, 0), .null)] (G := True) (c' := (46, [some (.ref 39), some (.int a1), some (.int a2), some (.int (M5 44 (Int32.toNatClampNeg (23 + a1))))], [.int (M5 44 (Int32.toNatClampNeg (23 + a1)))], M6)) (by decide +kernel) rfl trivial ?_
      exact WP.ret (.ireturn, 1, (0, 0), .null) (rk := 1) (by decide +kernel) (by decide +kernel) rfl trivial (hΦ _ _ h)
    · replace h := h.1 (Classical.not_not.mp c4)
      refine WP.blk [(.ldc 61, 2, (0, 0), .int (-1000001))] (G := True) (c' := (20, [some (.ref 39), some (.int a1), some (.int a2), none], [.int (-1000001)], M)) (by decide +kernel) rfl trivial ?_
      exact WP.ret (.ireturn, 1, (0, 0), .null) (rk := 1) (by decide +kernel) (by decide +kernel) rfl trivial (hΦ _ _ h)
/-- GearRoadModel.undo()I -/
def D_R_undo_22 (Φ : Int32 → Mm → Prop) (rec_22 : Int32 × Mm → Prop) : Int32 × Mm → Prop
  | (x1, M) => ((35 ≤ x1 → Φ (M 39 9) M) ∧ (¬ (35 ≤ x1) → vp_in ((35 * (M 39 9)) + x1) 840 ∧ vp_in x1 35 ∧ (∀ M3, M3 = mu M 44 (Int32.toNatClampNeg x1) (M 46 (Int32.toNatClampNeg ((35 * (M 39 9)) + x1))) → rec_22 ((x1 + 1), M3))))
def S_R_undo (M : Mm) (Φ : Int32 → Mm → Prop) : Prop := (((M 39 9) = 0 → Φ (-1000002) M) ∧ (¬ ((M 39 9) = 0) → (∀ M2, M2 = mu M 39 9 ((M 39 9) - 1) → ∃ n, lp (D_R_undo_22 Φ) n (0, M2))))
set_option maxRecDepth 100000 in
set_option maxHeartbeats 4000000 in
theorem L_R_undo_22 {d : Nat} {Post : Option Value → Mm → Prop} {rec_22 : Int32 × Mm → Prop} {Φ : Int32 → Mm → Prop} (hΦ : ∀ r M1, Φ r M1 → Post (some (.int r)) M1) (hrec_22 : ∀ (x1 : Int32) (M : Mm), rec_22 (x1, M) → WP (Ct (d + 0)) 174 Post (22, [some (.ref 39), some (.int x1)], [], M)) : ∀ (x1 : Int32) (M : Mm), D_R_undo_22 Φ rec_22 (x1, M) → WP (Ct (d + 0)) 174 Post (22, [some (.ref 39), some (.int x1)], [], M) := by
  intro x1 M h
  replace h : ((35 ≤ x1 → Φ (M 39 9) M) ∧ (¬ (35 ≤ x1) → vp_in ((35 * (M 39 9)) + x1) 840 ∧ vp_in x1 35 ∧ (∀ M3, M3 = mu M 44 (Int32.toNatClampNeg x1) (M 46 (Int32.toNatClampNeg ((35 * (M 39 9)) + x1))) → rec_22 ((x1 + 1), M3)))) := h
  refine WP.blk [(.iload_n 1, 1, (0, 0), .null), (.bipush 35, 2, (0, 0), .int 35)] (G := True) (c' := (25, [some (.ref 39), some (.int x1)], [.int 35, .int x1], M)) (by decide +kernel) rfl trivial ?_
  refine WP.br (.if_icmp .ge 29, 3, (54, 0), .null) (by decide +kernel) rfl (fun c2 => ?_) (fun c2 => ?_)
  · replace h := h.1 c2
    refine WP.blk [(.aload_n 0, 1, (0, 0), .null), (.getfield 76, 3, (7, 9), .null)] (G := True) (c' := (58, [some (.ref 39), some (.int x1)], [.int (M 39 9)], M)) (by decide +kernel) rfl trivial ?_
    exact WP.ret (.ireturn, 1, (0, 0), .null) (rk := 1) (by decide +kernel) (by decide +kernel) rfl trivial (hΦ _ _ h)
  · replace h := h.2 c2
    refine WP.blk [(.aload_n 0, 1, (0, 0), .null), (.getfield 22, 3, (7, 6), .null), (.iload_n 1, 1, (0, 0), .null), (.aload_n 0, 1, (0, 0), .null), (.getfield 28, 3, (7, 8), .null), (.bipush 35, 2, (0, 0), .int 35), (.aload_n 0, 1, (0, 0), .null), (.getfield 76, 3, (7, 9), .null), (.imul, 1, (0, 0), .null), (.iload_n 1, 1, (0, 0), .null), (.iadd, 1, (0, 0), .null), (.iaload, 1, (0, 0), .null), (.iastore, 1, (0, 0), .null)] (G := vp_in ((35 * (M 39 9)) + x1) 840 ∧ vp_in x1 35 ∧ True) (c' := (48, [some (.ref 39), some (.int x1)], [], (mu M 44 (Int32.toNatClampNeg x1) (M 46 (Int32.toNatClampNeg ((35 * (M 39 9)) + x1)))))) (by decide +kernel) rfl ⟨h.1, h.2.1, trivial⟩ ?_
    replace h := h.2.2
    replace h := h (mu M 44 (Int32.toNatClampNeg x1) (M 46 (Int32.toNatClampNeg ((35 * (M 39 9)) + x1)))) rfl
    generalize (mu M 44 (Int32.toNatClampNeg x1) (M 46 (Int32.toNatClampNeg ((35 * (M 39 9)) + x1)))) = M3 at h ⊢
    refine WP.blk [(.iinc 1 1, 3, (0, 0), .int 1), (.goto (-29), 3, (22, 0), .null)] (G := True) (c' := (22, [some (.ref 39), some (.int (x1 + 1))], [], M3)) (by decide +kernel) rfl trivial ?_
    exact hrec_22 _ _ h
theorem P_R_undo_22 {d : Nat} {Post : Option Value → Mm → Prop} {Φ : Int32 → Mm → Prop} (hΦ : ∀ r M1, Φ r M1 → Post (some (.int r)) M1) : ∀ (n : Nat) (x1 : Int32) (M : Mm), lp (D_R_undo_22 Φ) n (x1, M) → WP (Ct (d + 0)) 174 Post (22, [some (.ref 39), some (.int x1)], [], M)
  | 0, x1, M, h => absurd h (by simp [lp])
  | n + 1, x1, M, h => L_R_undo_22 hΦ (P_R_undo_22 hΦ n) x1 M h
set_option maxRecDepth 100000 in
set_option maxHeartbeats 4000000 in
theorem sp_R_undo {d : Nat} {Post : Option Value → Mm → Prop} {M : Mm} {Φ : Int32 → Mm → Prop} (h : S_R_undo M Φ) (hΦ : ∀ r M1, Φ r M1 → Post (some (.int r)) M1) : Ct (d + 1) 174 [.ref 39] M Post := by
  refine Ct.go (n := 2) (E := [some (.ref 39), none]) (by decide +kernel) (by simp [Value.category]) rfl ?_
  refine WP.blk [(.aload_n 0, 1, (0, 0), .null), (.getfield 76, 3, (7, 9), .null)] (G := True) (c' := (4, [some (.ref 39), none], [.int (M 39 9)], M)) (by decide +kernel) rfl trivial ?_
  refine WP.br (.ifCond .ne 6, 3, (10, 0), .null) (by decide +kernel) rfl (fun c1 => ?_) (fun c1 => ?_)
  · replace h := h.2 c1
    refine WP.blk [(.aload_n 0, 1, (0, 0), .null), (.dup, 1, (0, 0), .null), (.getfield 76, 3, (7, 9), .null), (.iconst 1, 1, (0, 0), .int 1), (.isub, 1, (0, 0), .null), (.putfield 76, 3, (7, 9), .null)] (G := True) (c' := (20, [some (.ref 39), none], [], (mu M 39 9 ((M 39 9) - 1)))) (by decide +kernel) rfl trivial ?_
    replace h := h (mu M 39 9 ((M 39 9) - 1)) rfl
    generalize (mu M 39 9 ((M 39 9) - 1)) = M2 at h ⊢
    refine WP.blk [(.iconst 0, 1, (0, 0), .int 0), (.istore_n 1, 1, (0, 0), .null)] (G := True) (c' := (22, [some (.ref 39), some (.int 0)], [], M2)) (by decide +kernel) rfl trivial ?_
    obtain ⟨n, h⟩ := h
    exact P_R_undo_22 hΦ n _ _ h
  · replace h := h.1 (Classical.not_not.mp c1)
    refine WP.blk [(.ldc 154, 2, (0, 0), .int (-1000002))] (G := True) (c' := (9, [some (.ref 39), none], [.int (-1000002)], M)) (by decide +kernel) rfl trivial ?_
    exact WP.ret (.ireturn, 1, (0, 0), .null) (rk := 1) (by decide +kernel) (by decide +kernel) rfl trivial (hΦ _ _ h)
/-- GearRoadModel.cog(II)I -/
def S_R_cog (M : Mm) (a1 : Int32) (a2 : Int32) (Φ : Int32 → Prop) : Prop := S_R_isCog M a1 (fun r1 => ((r1 = 0 → Φ (-1000001)) ∧ (¬ (r1 = 0) → ((a2 = 0 → vp_in (17 + a1) 35 ∧ Φ (M 44 (Int32.toNatClampNeg (17 + a1)))) ∧ (¬ (a2 = 0) → ((a2 = 1 → vp_in (29 + a1) 35 ∧ Φ (M 44 (Int32.toNatClampNeg (29 + a1)))) ∧ (¬ (a2 = 1) → ((a2 = 2 → S_R_shiftOnto 44 M a1 (fun r6 => Φ r6)) ∧ (¬ (a2 = 2) → ((a2 = 3 → S_R_canLeave 44 M a1 (M 44 (Int32.toNatClampNeg 6)) (fun r8 => ((r8 = 0 → Φ 0) ∧ (¬ (r8 = 0) → Φ 1)))) ∧ (¬ (a2 = 3) → Φ (-1000001))))))))))))
set_option maxRecDepth 100000 in
set_option maxHeartbeats 4000000 in
theorem sp_R_cog {d : Nat} {Post : Option Value → Mm → Prop} {M : Mm} {a1 : Int32} {a2 : Int32} {Φ : Int32 → Prop} (h : S_R_cog M a1 a2 Φ) (hΦ : ∀ r, Φ r → Post (some (.int r)) M) : Ct (d + 3) 175 [.ref 39, .int a1, .int a2] M Post := by
  refine Ct.go (n := 3) (E := [some (.ref 39), some (.int a1), some (.int a2)]) (by decide +kernel) (by simp [Value.category]) rfl ?_
  refine WP.blk [(.aload_n 0, 1, (0, 0), .null), (.iload_n 1, 1, (0, 0), .null)] (G := True) (c' := (2, [some (.ref 39), some (.int a1), some (.int a2)], [.int a1, .ref 39], M)) (by decide +kernel) rfl trivial ?_
  refine WP.call (.invokevirtual 166, 3, (165, 2), .retAddr 7) (by decide +kernel) rfl (sp_R_isCog (d := d + 0) h (fun r1 h => ?_))
  show WP (Ct (d + 2)) 175 Post (5, [some (.ref 39), some (.int a1), some (.int a2)], [.int r1], M)
  refine WP.br (.ifCond .ne 6, 3, (11, 0), .null) (by decide +kernel) rfl (fun c2 => ?_) (fun c2 => ?_)
  · replace h := h.2 c2
    refine WP.blk [(.iload_n 2, 1, (0, 0), .null)] (G := True) (c' := (12, [some (.ref 39), some (.int a1), some (.int a2)], [.int a2], M)) (by decide +kernel) rfl trivial ?_
    by_cases e3 : a2 = 0
    · refine WP.sw (.tableswitch 85 0 3 #[32, 42, 52, 61], 32, (0, 0), .null) 44 (by decide +kernel) (Or.inl ⟨_, _, _, _, rfl⟩) (by rw [e3]; decide) ?_
      replace h := h.1 e3
      refine WP.blk [(.aload_n 0, 1, (0, 0), .null), (.getfield 22, 3, (7, 6), .null), (.bipush 17, 2, (0, 0), .int 17), (.iload_n 1, 1, (0, 0), .null), (.iadd, 1, (0, 0), .null), (.iaload, 1, (0, 0), .null)] (G := vp_in (17 + a1) 35 ∧ True) (c' := (53, [some (.ref 39), some (.int a1), some (.int a2)], [.int (M 44 (Int32.toNatClampNeg (17 + a1)))], M)) (by decide +kernel) rfl ⟨h.1, trivial⟩ ?_
      replace h := h.2
      exact WP.ret (.ireturn, 1, (0, 0), .null) (rk := 1) (by decide +kernel) (by decide +kernel) rfl trivial (hΦ _ h)
    replace h := h.2 e3
    by_cases e4 : a2 = 1
    · refine WP.sw (.tableswitch 85 0 3 #[32, 42, 52, 61], 32, (0, 0), .null) 54 (by decide +kernel) (Or.inl ⟨_, _, _, _, rfl⟩) (by rw [e4]; decide) ?_
      replace h := h.1 e4
      refine WP.blk [(.aload_n 0, 1, (0, 0), .null), (.getfield 22, 3, (7, 6), .null), (.bipush 29, 2, (0, 0), .int 29), (.iload_n 1, 1, (0, 0), .null), (.iadd, 1, (0, 0), .null), (.iaload, 1, (0, 0), .null)] (G := vp_in (29 + a1) 35 ∧ True) (c' := (63, [some (.ref 39), some (.int a1), some (.int a2)], [.int (M 44 (Int32.toNatClampNeg (29 + a1)))], M)) (by decide +kernel) rfl ⟨h.1, trivial⟩ ?_
      replace h := h.2
      exact WP.ret (.ireturn, 1, (0, 0), .null) (rk := 1) (by decide +kernel) (by decide +kernel) rfl trivial (hΦ _ h)
    replace h := h.2 e4
    by_cases e5 : a2 = 2
    · refine WP.sw (.tableswitch 85 0 3 #[32, 42, 52, 61], 32, (0, 0), .null) 64 (by decide +kernel) (Or.inl ⟨_, _, _, _, rfl⟩) (by rw [e5]; decide) ?_
      replace h := h.1 e5
      refine WP.blk [(.aload_n 0, 1, (0, 0), .null), (.getfield 22, 3, (7, 6), .null), (.iload_n 1, 1, (0, 0), .null)] (G := True) (c' := (69, [some (.ref 39), some (.int a1), some (.int a2)], [.int a1, .ref 44], M)) (by decide +kernel) rfl trivial ?_
      refine WP.call (.invokestatic 172, 3, (167, 2), .null) (by decide +kernel) rfl (sp_R_shiftOnto (d := d + 1) (by decide) h (fun r6 h => ?_))
      show WP (Ct (d + 2)) 175 Post (72, [some (.ref 39), some (.int a1), some (.int a2)], [.int r6], M)
      exact WP.ret (.ireturn, 1, (0, 0), .null) (rk := 1) (by decide +kernel) (by decide +kernel) rfl trivial (hΦ _ h)
    replace h := h.2 e5
    by_cases e7 : a2 = 3
    · refine WP.sw (.tableswitch 85 0 3 #[32, 42, 52, 61], 32, (0, 0), .null) 73 (by decide +kernel) (Or.inl ⟨_, _, _, _, rfl⟩) (by rw [e7]; decide) ?_
      replace h := h.1 e7
      refine WP.blk [(.aload_n 0, 1, (0, 0), .null), (.getfield 22, 3, (7, 6), .null), (.iload_n 1, 1, (0, 0), .null), (.aload_n 0, 1, (0, 0), .null), (.getfield 22, 3, (7, 6), .null), (.bipush 6, 2, (0, 0), .int 6), (.iaload, 1, (0, 0), .null)] (G := vp_in 6 35 ∧ True) (c' := (85, [some (.ref 39), some (.int a1), some (.int a2)], [.int (M 44 (Int32.toNatClampNeg 6)), .int a1, .ref 44], M)) (by decide +kernel) rfl ⟨(vp_lit (by decide)), trivial⟩ ?_
      refine WP.call (.invokestatic 169, 3, (166, 3), .null) (by decide +kernel) rfl (sp_R_canLeave (d := d + 1) (by decide) h (fun r8 h => ?_))
      show WP (Ct (d + 2)) 175 Post (88, [some (.ref 39), some (.int a1), some (.int a2)], [.int r8], M)
      refine WP.br (.ifCond .eq 7, 3, (95, 0), .null) (by decide +kernel) rfl (fun c9 => ?_) (fun c9 => ?_)
      · replace h := h.1 c9
        refine WP.blk [(.iconst 0, 1, (0, 0), .int 0)] (G := True) (c' := (96, [some (.ref 39), some (.int a1), some (.int a2)], [.int 0], M)) (by decide +kernel) rfl trivial ?_
        exact WP.ret (.ireturn, 1, (0, 0), .null) (rk := 1) (by decide +kernel) (by decide +kernel) rfl trivial (hΦ _ h)
      · replace h := h.2 c9
        refine WP.blk [(.iconst 1, 1, (0, 0), .int 1), (.goto 4, 3, (96, 0), .null)] (G := True) (c' := (96, [some (.ref 39), some (.int a1), some (.int a2)], [.int 1], M)) (by decide +kernel) rfl trivial ?_
        exact WP.ret (.ireturn, 1, (0, 0), .null) (rk := 1) (by decide +kernel) (by decide +kernel) rfl trivial (hΦ _ h)
    replace h := h.2 e7
    refine WP.sw (.tableswitch 85 0 3 #[32, 42, 52, 61], 32, (0, 0), .null) 97 (by decide +kernel) (Or.inl ⟨_, _, _, _, rfl⟩) (by rw [sw_out (by have := ne_toInt e3; rw [show (0 : Int32).toInt = 0 from by decide] at this; have := ne_toInt e4; rw [show (1 : Int32).toInt = 1 from by decide] at this; have := ne_toInt e5; rw [show (2 : Int32).toInt = 2 from by decide] at this; have := ne_toInt e7; rw [show (3 : Int32).toInt = 3 from by decide] at this; omega)]; rfl) ?_
    refine WP.blk [(.ldc 61, 2, (0, 0), .int (-1000001))] (G := True) (c' := (99, [some (.ref 39), some (.int a1), some (.int a2)], [.int (-1000001)], M)) (by decide +kernel) rfl trivial ?_
    exact WP.ret (.ireturn, 1, (0, 0), .null) (rk := 1) (by decide +kernel) (by decide +kernel) rfl trivial (hΦ _ h)
  · replace h := h.1 (Classical.not_not.mp c2)
    refine WP.blk [(.ldc 61, 2, (0, 0), .int (-1000001))] (G := True) (c' := (10, [some (.ref 39), some (.int a1), some (.int a2)], [.int (-1000001)], M)) (by decide +kernel) rfl trivial ?_
    exact WP.ret (.ireturn, 1, (0, 0), .null) (rk := 1) (by decide +kernel) (by decide +kernel) rfl trivial (hΦ _ h)
/-- GearRoadModel.ring(I)I -/
def S_R_ring (M : Mm) (a1 : Int32) (Φ : Int32 → Prop) : Prop := S_R_in M a1 0 ((M 44 (Int32.toNatClampNeg 1)) - 1) (fun r1 => ((r1 = 0 → Φ (-1000001)) ∧ (¬ (r1 = 0) → vp_in (8 + a1) 35 ∧ Φ (M 44 (Int32.toNatClampNeg (8 + a1))))))
set_option maxRecDepth 100000 in
set_option maxHeartbeats 4000000 in
theorem sp_R_ring {d : Nat} {Post : Option Value → Mm → Prop} {M : Mm} {a1 : Int32} {Φ : Int32 → Prop} (h : S_R_ring M a1 Φ) (hΦ : ∀ r, Φ r → Post (some (.int r)) M) : Ct (d + 2) 176 [.ref 39, .int a1] M Post := by
  refine Ct.go (n := 2) (E := [some (.ref 39), some (.int a1)]) (by decide +kernel) (by simp [Value.category]) rfl ?_
  refine WP.blk [(.iload_n 1, 1, (0, 0), .null), (.iconst 0, 1, (0, 0), .int 0), (.aload_n 0, 1, (0, 0), .null), (.getfield 22, 3, (7, 6), .null), (.iconst 1, 1, (0, 0), .int 1), (.iaload, 1, (0, 0), .null), (.iconst 1, 1, (0, 0), .int 1), (.isub, 1, (0, 0), .null)] (G := vp_in 1 35 ∧ True) (c' := (10, [some (.ref 39), some (.int a1)], [.int ((M 44 (Int32.toNatClampNeg 1)) - 1), .int 0, .int a1], M)) (by decide +kernel) rfl ⟨(vp_lit (by decide)), trivial⟩ ?_
  refine WP.call (.invokestatic 53, 3, (135, 3), .null) (by decide +kernel) rfl (sp_R_in (d := d + 0) h (fun r1 h => ?_))
  show WP (Ct (d + 1)) 176 Post (13, [some (.ref 39), some (.int a1)], [.int r1], M)
  refine WP.br (.ifCond .eq 15, 3, (28, 0), .null) (by decide +kernel) rfl (fun c2 => ?_) (fun c2 => ?_)
  · replace h := h.1 c2
    refine WP.blk [(.ldc 61, 2, (0, 0), .int (-1000001))] (G := True) (c' := (30, [some (.ref 39), some (.int a1)], [.int (-1000001)], M)) (by decide +kernel) rfl trivial ?_
    exact WP.ret (.ireturn, 1, (0, 0), .null) (rk := 1) (by decide +kernel) (by decide +kernel) rfl trivial (hΦ _ h)
  · replace h := h.2 c2
    refine WP.blk [(.aload_n 0, 1, (0, 0), .null), (.getfield 22, 3, (7, 6), .null), (.bipush 8, 2, (0, 0), .int 8), (.iload_n 1, 1, (0, 0), .null), (.iadd, 1, (0, 0), .null), (.iaload, 1, (0, 0), .null), (.goto 5, 3, (30, 0), .null)] (G := vp_in (8 + a1) 35 ∧ True) (c' := (30, [some (.ref 39), some (.int a1)], [.int (M 44 (Int32.toNatClampNeg (8 + a1)))], M)) (by decide +kernel) rfl ⟨h.1, trivial⟩ ?_
    replace h := h.2
    exact WP.ret (.ireturn, 1, (0, 0), .null) (rk := 1) (by decide +kernel) (by decide +kernel) rfl trivial (hΦ _ h)
/-- GearRoadModel.isGear(I)Z -/
def S_R_isGear (M : Mm) (a1 : Int32) (Φ : Int32 → Prop) : Prop := ((a1 < 0 → Φ 0) ∧ (¬ (a1 < 0) → (((M 44 (Int32.toNatClampNeg 1)) ≤ (a1 / 6) → Φ 0) ∧ (¬ ((M 44 (Int32.toNatClampNeg 1)) ≤ (a1 / 6)) → (((M 44 (Int32.toNatClampNeg 2)) ≤ (irm a1 6) → Φ 0) ∧ (¬ ((M 44 (Int32.toNatClampNeg 2)) ≤ (irm a1 6)) → Φ 1))))))
set_option maxRecDepth 100000 in
set_option maxHeartbeats 4000000 in
theorem sp_R_isGear {d : Nat} {Post : Option Value → Mm → Prop} {M : Mm} {a1 : Int32} {Φ : Int32 → Prop} (h : S_R_isGear M a1 Φ) (hΦ : ∀ r, Φ r → Post (some (.int r)) M) : Ct (d + 1) 178 [.ref 39, .int a1] M Post := by
  refine Ct.go (n := 2) (E := [some (.ref 39), some (.int a1)]) (by decide +kernel) (by simp [Value.category]) rfl ?_
  refine WP.blk [(.iload_n 1, 1, (0, 0), .null)] (G := True) (c' := (1, [some (.ref 39), some (.int a1)], [.int a1], M)) (by decide +kernel) rfl trivial ?_
  refine WP.br (.ifCond .lt 33, 3, (34, 0), .null) (by decide +kernel) rfl (fun c1 => ?_) (fun c1 => ?_)
  · replace h := h.1 c1
    refine WP.blk [(.iconst 0, 1, (0, 0), .int 0)] (G := True) (c' := (35, [some (.ref 39), some (.int a1)], [.int 0], M)) (by decide +kernel) rfl trivial ?_
    exact WP.ret (.ireturn, 1, (0, 0), .null) (rk := 2) (by decide +kernel) (by decide +kernel) rfl (by decide) (hΦ _ h)
  · replace h := h.2 c1
    refine WP.blk [(.iload_n 1, 1, (0, 0), .null), (.bipush 6, 2, (0, 0), .int 6), (.idiv, 1, (0, 0), .null), (.aload_n 0, 1, (0, 0), .null), (.getfield 22, 3, (7, 6), .null), (.iconst 1, 1, (0, 0), .int 1), (.iaload, 1, (0, 0), .null)] (G := ¬ (6 : Int32) = 0 ∧ vp_in 1 35 ∧ True) (c' := (14, [some (.ref 39), some (.int a1)], [.int (M 44 (Int32.toNatClampNeg 1)), .int (a1 / 6)], M)) (by decide +kernel) rfl ⟨(by decide), (vp_lit (by decide)), trivial⟩ ?_
    refine WP.br (.if_icmp .ge 20, 3, (34, 0), .null) (by decide +kernel) rfl (fun c2 => ?_) (fun c2 => ?_)
    · replace h := h.1 c2
      refine WP.blk [(.iconst 0, 1, (0, 0), .int 0)] (G := True) (c' := (35, [some (.ref 39), some (.int a1)], [.int 0], M)) (by decide +kernel) rfl trivial ?_
      exact WP.ret (.ireturn, 1, (0, 0), .null) (rk := 2) (by decide +kernel) (by decide +kernel) rfl (by decide) (hΦ _ h)
    · replace h := h.2 c2
      refine WP.blk [(.iload_n 1, 1, (0, 0), .null), (.bipush 6, 2, (0, 0), .int 6), (.irem, 1, (0, 0), .null), (.aload_n 0, 1, (0, 0), .null), (.getfield 22, 3, (7, 6), .null), (.iconst 2, 1, (0, 0), .int 2), (.iaload, 1, (0, 0), .null)] (G := ¬ (6 : Int32) = 0 ∧ vp_in 2 35 ∧ True) (c' := (27, [some (.ref 39), some (.int a1)], [.int (M 44 (Int32.toNatClampNeg 2)), .int (irm a1 6)], M)) (by decide +kernel) rfl ⟨(by decide), (vp_lit (by decide)), trivial⟩ ?_
      refine WP.br (.if_icmp .ge 7, 3, (34, 0), .null) (by decide +kernel) rfl (fun c3 => ?_) (fun c3 => ?_)
      · replace h := h.1 c3
        refine WP.blk [(.iconst 0, 1, (0, 0), .int 0)] (G := True) (c' := (35, [some (.ref 39), some (.int a1)], [.int 0], M)) (by decide +kernel) rfl trivial ?_
        exact WP.ret (.ireturn, 1, (0, 0), .null) (rk := 2) (by decide +kernel) (by decide +kernel) rfl (by decide) (hΦ _ h)
      · replace h := h.2 c3
        refine WP.blk [(.iconst 1, 1, (0, 0), .int 1), (.goto 4, 3, (35, 0), .null)] (G := True) (c' := (35, [some (.ref 39), some (.int a1)], [.int 1], M)) (by decide +kernel) rfl trivial ?_
        exact WP.ret (.ireturn, 1, (0, 0), .null) (rk := 2) (by decide +kernel) (by decide +kernel) rfl (by decide) (hΦ _ h)
/-- GearRoadModel.piece(II)I -/
def D_R_piece_91 (M : Mm) (Φ : Int32 → Prop) (rec_53 : Int32 × Int32 × Int32 → Prop) : Int32 × Int32 × Int32 × Int32 → Prop
  | (x1, x2, x3, x4) => rec_53 (x1, (x4 ||| x3), (x2 + 1))
def D_R_piece_90 (M : Mm) (Φ : Int32 → Prop) (rec_53 : Int32 × Int32 × Int32 → Prop) : Int32 × Int32 × Int32 → Prop
  | (x1, x2, x3) => D_R_piece_91 M Φ rec_53 (x1, x2, 0, x3)
def D_R_piece_53 (M : Mm) (Φ : Int32 → Prop) (rec_53 : Int32 × Int32 × Int32 → Prop) : Int32 × Int32 × Int32 → Prop
  | (x1, x2, x3) => ((18 ≤ x3 → Φ x2) ∧ (¬ (18 ≤ x3) → S_R_isGear M x3 (fun r5 => ((r5 = 0 → D_R_piece_90 M Φ rec_53 (x1, x3, x2)) ∧ (¬ (r5 = 0) → S_R_bears 44 M x3 x1 (fun r7 => ((r7 = 0 → D_R_piece_90 M Φ rec_53 (x1, x3, x2)) ∧ (¬ (r7 = 0) → D_R_piece_91 M Φ rec_53 (x1, x3, (1 <<< (x3 &&& 31)), x2)))))))))
def S_R_piece (M : Mm) (a1 : Int32) (a2 : Int32) (Φ : Int32 → Prop) : Prop := S_R_isPiece M a1 (fun r1 => ((r1 = 0 → Φ (-1000001)) ∧ (¬ (r1 = 0) → ((a2 = 0 → vp_in (23 + a1) 35 ∧ Φ (M 44 (Int32.toNatClampNeg (23 + a1)))) ∧ (¬ (a2 = 0) → ((a2 = 1 → ∃ n, lp (D_R_piece_53 M Φ) n (a1, 0, 0)) ∧ (¬ (a2 = 1) → ((a2 = 2 → S_R_gearOf 44 M (fun r6 => vp_in (23 + a1) 35 ∧ S_R_loadOf 44 M r6 (M 44 (Int32.toNatClampNeg (23 + a1))) (fun r7 => Φ r7))) ∧ (¬ (a2 = 2) → Φ (-1000001))))))))))
set_option maxRecDepth 100000 in
set_option maxHeartbeats 4000000 in
theorem L_R_piece_91 {d : Nat} {Post : Option Value → Mm → Prop} {M : Mm} {rec_53 : Int32 × Int32 × Int32 → Prop} {Φ : Int32 → Prop} (hΦ : ∀ r, Φ r → Post (some (.int r)) M) (hrec_53 : ∀ (x1 : Int32) (x2 : Int32) (x3 : Int32), rec_53 (x1, x2, x3) → WP (Ct (d + 2)) 177 Post (53, [some (.ref 39), some (.int x1), none, some (.int x2), some (.int x3)], [], M)) : ∀ (x1 : Int32) (x2 : Int32) (x3 : Int32) (x4 : Int32), D_R_piece_91 M Φ rec_53 (x1, x2, x3, x4) → WP (Ct (d + 2)) 177 Post (91, [some (.ref 39), some (.int x1), none, none, some (.int x2)], [.int x3, .int x4], M) := by
  intro x1 x2 x3 x4 h
  replace h : rec_53 (x1, (x4 ||| x3), (x2 + 1)) := h
  refine WP.blk [(.ior, 1, (0, 0), .null), (.istore_n 3, 1, (0, 0), .null), (.iinc 4 1, 3, (0, 0), .int 1), (.goto (-43), 3, (53, 0), .null)] (G := True) (c' := (53, [some (.ref 39), some (.int x1), none, some (.int (x4 ||| x3)), some (.int (x2 + 1))], [], M)) (by decide +kernel) rfl trivial ?_
  exact hrec_53 _ _ _ h
set_option maxRecDepth 100000 in
set_option maxHeartbeats 4000000 in
theorem L_R_piece_90 {d : Nat} {Post : Option Value → Mm → Prop} {M : Mm} {rec_53 : Int32 × Int32 × Int32 → Prop} {Φ : Int32 → Prop} (hΦ : ∀ r, Φ r → Post (some (.int r)) M) (hrec_53 : ∀ (x1 : Int32) (x2 : Int32) (x3 : Int32), rec_53 (x1, x2, x3) → WP (Ct (d + 2)) 177 Post (53, [some (.ref 39), some (.int x1), none, some (.int x2), some (.int x3)], [], M)) : ∀ (x1 : Int32) (x2 : Int32) (x3 : Int32), D_R_piece_90 M Φ rec_53 (x1, x2, x3) → WP (Ct (d + 2)) 177 Post (90, [some (.ref 39), some (.int x1), none, none, some (.int x2)], [.int x3], M) := by
  intro x1 x2 x3 h
  replace h : D_R_piece_91 M Φ rec_53 (x1, x2, 0, x3) := h
  refine WP.blk [(.iconst 0, 1, (0, 0), .int 0)] (G := True) (c' := (91, [some (.ref 39), some (.int x1), none, none, some (.int x2)], [.int 0, .int x3], M)) (by decide +kernel) rfl trivial ?_
  exact L_R_piece_91 hΦ hrec_53 _ _ _ _ h
set_option maxRecDepth 100000 in
set_option maxHeartbeats 4000000 in
theorem L_R_piece_53 {d : Nat} {Post : Option Value → Mm → Prop} {M : Mm} {rec_53 : Int32 × Int32 × Int32 → Prop} {Φ : Int32 → Prop} (hΦ : ∀ r, Φ r → Post (some (.int r)) M) (hrec_53 : ∀ (x1 : Int32) (x2 : Int32) (x3 : Int32), rec_53 (x1, x2, x3) → WP (Ct (d + 2)) 177 Post (53, [some (.ref 39), some (.int x1), none, some (.int x2), some (.int x3)], [], M)) : ∀ (x1 : Int32) (x2 : Int32) (x3 : Int32), D_R_piece_53 M Φ rec_53 (x1, x2, x3) → WP (Ct (d + 2)) 177 Post (53, [some (.ref 39), some (.int x1), none, some (.int x2), some (.int x3)], [], M) := by
  intro x1 x2 x3 h
  replace h : ((18 ≤ x3 → Φ x2) ∧ (¬ (18 ≤ x3) → S_R_isGear M x3 (fun r5 => ((r5 = 0 → D_R_piece_90 M Φ rec_53 (x1, x3, x2)) ∧ (¬ (r5 = 0) → S_R_bears 44 M x3 x1 (fun r7 => ((r7 = 0 → D_R_piece_90 M Φ rec_53 (x1, x3, x2)) ∧ (¬ (r7 = 0) → D_R_piece_91 M Φ rec_53 (x1, x3, (1 <<< (x3 &&& 31)), x2))))))))) := h
  refine WP.blk [(.iload 4, 2, (0, 0), .null), (.bipush 18, 2, (0, 0), .int 18)] (G := True) (c' := (57, [some (.ref 39), some (.int x1), none, some (.int x2), some (.int x3)], [.int 18, .int x3], M)) (by decide +kernel) rfl trivial ?_
  refine WP.br (.if_icmp .ge 42, 3, (99, 0), .null) (by decide +kernel) rfl (fun c4 => ?_) (fun c4 => ?_)
  · replace h := h.1 c4
    refine WP.blk [(.iload_n 3, 1, (0, 0), .null)] (G := True) (c' := (100, [some (.ref 39), some (.int x1), none, some (.int x2), some (.int x3)], [.int x2], M)) (by decide +kernel) rfl trivial ?_
    exact WP.ret (.ireturn, 1, (0, 0), .null) (rk := 1) (by decide +kernel) (by decide +kernel) rfl trivial (hΦ _ h)
  · replace h := h.2 c4
    refine WP.blk [(.iload_n 3, 1, (0, 0), .null), (.aload_n 0, 1, (0, 0), .null), (.iload 4, 2, (0, 0), .null)] (G := True) (c' := (64, [some (.ref 39), some (.int x1), none, some (.int x2), some (.int x3)], [.int x3, .ref 39, .int x2], M)) (by decide +kernel) rfl trivial ?_
    refine WP.call (.invokevirtual 182, 3, (178, 2), .retAddr 7) (by decide +kernel) rfl (sp_R_isGear (d := d + 1) h (fun r5 h => ?_))
    show WP (Ct (d + 2)) 177 Post (67, [some (.ref 39), some (.int x1), none, some (.int x2), some (.int x3)], [.int r5, .int x2], M)
    refine WP.br (.ifCond .eq 23, 3, (90, 0), .null) (by decide +kernel) rfl (fun c6 => ?_) (fun c6 => ?_)
    · replace h := h.1 c6
      refine WP.fgt [some (.ref 39), some (.int x1), none, none, some (.int x3)] (by simp [fgt]) ?_
      exact L_R_piece_90 hΦ hrec_53 _ _ _ h
    · replace h := h.2 c6
      refine WP.blk [(.aload_n 0, 1, (0, 0), .null), (.getfield 22, 3, (7, 6), .null), (.iload 4, 2, (0, 0), .null), (.iload_n 1, 1, (0, 0), .null)] (G := True) (c' := (77, [some (.ref 39), some (.int x1), none, some (.int x2), some (.int x3)], [.int x1, .int x3, .ref 44, .int x2], M)) (by decide +kernel) rfl trivial ?_
      refine WP.call (.invokestatic 150, 3, (158, 3), .null) (by decide +kernel) rfl (sp_R_bears (d := d + 0) (by decide) h (fun r7 h => ?_))
      show WP (Ct (d + 2)) 177 Post (80, [some (.ref 39), some (.int x1), none, some (.int x2), some (.int x3)], [.int r7, .int x2], M)
      refine WP.br (.ifCond .eq 10, 3, (90, 0), .null) (by decide +kernel) rfl (fun c8 => ?_) (fun c8 => ?_)
      · replace h := h.1 c8
        refine WP.fgt [some (.ref 39), some (.int x1), none, none, some (.int x3)] (by simp [fgt]) ?_
        exact L_R_piece_90 hΦ hrec_53 _ _ _ h
      · replace h := h.2 c8
        refine WP.blk [(.iconst 1, 1, (0, 0), .int 1), (.iload 4, 2, (0, 0), .null), (.ishl, 1, (0, 0), .null), (.goto 4, 3, (91, 0), .null)] (G := True) (c' := (91, [some (.ref 39), some (.int x1), none, some (.int x2), some (.int x3)], [.int (1 <<< (x3 &&& 31)), .int x2], M)) (by decide +kernel) rfl trivial ?_
        refine WP.fgt [some (.ref 39), some (.int x1), none, none, some (.int x3)] (by simp [fgt]) ?_
        exact L_R_piece_91 hΦ hrec_53 _ _ _ _ h
theorem P_R_piece_53 {d : Nat} {Post : Option Value → Mm → Prop} {M : Mm} {Φ : Int32 → Prop} (hΦ : ∀ r, Φ r → Post (some (.int r)) M) : ∀ (n : Nat) (x1 : Int32) (x2 : Int32) (x3 : Int32), lp (D_R_piece_53 M Φ) n (x1, x2, x3) → WP (Ct (d + 2)) 177 Post (53, [some (.ref 39), some (.int x1), none, some (.int x2), some (.int x3)], [], M)
  | 0, x1, x2, x3, h => absurd h (by simp [lp])
  | n + 1, x1, x2, x3, h => L_R_piece_53 hΦ (P_R_piece_53 hΦ n) x1 x2 x3 h
set_option maxRecDepth 100000 in
set_option maxHeartbeats 4000000 in
theorem sp_R_piece {d : Nat} {Post : Option Value → Mm → Prop} {M : Mm} {a1 : Int32} {a2 : Int32} {Φ : Int32 → Prop} (h : S_R_piece M a1 a2 Φ) (hΦ : ∀ r, Φ r → Post (some (.int r)) M) : Ct (d + 3) 177 [.ref 39, .int a1, .int a2] M Post := by
  refine Ct.go (n := 5) (E := [some (.ref 39), some (.int a1), some (.int a2), none, none]) (by decide +kernel) (by simp [Value.category]) rfl ?_
  refine WP.blk [(.aload_n 0, 1, (0, 0), .null), (.iload_n 1, 1, (0, 0), .null)] (G := True) (c' := (2, [some (.ref 39), some (.int a1), some (.int a2), none, none], [.int a1, .ref 39], M)) (by decide +kernel) rfl trivial ?_
  refine WP.call (.invokevirtual 179, 3, (173, 2), .retAddr 7) (by decide +kernel) rfl (sp_R_isPiece (d := d + 0) h (fun r1 h => ?_))
  show WP (Ct (d + 2)) 177 Post (5, [some (.ref 39), some (.int a1), some (.int a2), none, none], [.int r1], M)
  refine WP.br (.ifCond .ne 6, 3, (11, 0), .null) (by decide +kernel) rfl (fun c2 => ?_) (fun c2 => ?_)
  · replace h := h.2 c2
    refine WP.blk [(.iconst 0, 1, (0, 0), .int 0), (.istore_n 3, 1, (0, 0), .null), (.iload_n 2, 1, (0, 0), .null)] (G := True) (c' := (14, [some (.ref 39), some (.int a1), some (.int a2), some (.int 0), none], [.int a2], M)) (by decide +kernel) rfl trivial ?_
    by_cases e3 : a2 = 0
    · refine WP.sw (.tableswitch 111 0 2 #[26, 36, 87], 26, (0, 0), .null) 40 (by decide +kernel) (Or.inl ⟨_, _, _, _, rfl⟩) (by rw [e3]; decide) ?_
      replace h := h.1 e3
      refine WP.blk [(.aload_n 0, 1, (0, 0), .null), (.getfield 22, 3, (7, 6), .null), (.bipush 23, 2, (0, 0), .int 23), (.iload_n 1, 1, (0, 0), .null), (.iadd, 1, (0, 0), .null), (.iaload, 1, (0, 0), .null)] (G := vp_in (23 + a1) 35 ∧ True) (c' := (49, [some (.ref 39), some (.int a1), some (.int a2), some (.int 0), none], [.int (M 44 (Int32.toNatClampNeg (23 + a1)))], M)) (by decide +kernel) rfl ⟨h.1, trivial⟩ ?_
      replace h := h.2
      exact WP.ret (.ireturn, 1, (0, 0), .null) (rk := 1) (by decide +kernel) (by decide +kernel) rfl trivial (hΦ _ h)
    replace h := h.2 e3
    by_cases e4 : a2 = 1
    · refine WP.sw (.tableswitch 111 0 2 #[26, 36, 87], 26, (0, 0), .null) 50 (by decide +kernel) (Or.inl ⟨_, _, _, _, rfl⟩) (by rw [e4]; decide) ?_
      replace h := h.1 e4
      refine WP.blk [(.iconst 0, 1, (0, 0), .int 0), (.istore 4, 2, (0, 0), .null)] (G := True) (c' := (53, [some (.ref 39), some (.int a1), some (.int a2), some (.int 0), some (.int 0)], [], M)) (by decide +kernel) rfl trivial ?_
      refine WP.fgt [some (.ref 39), some (.int a1), none, some (.int 0), some (.int 0)] (by simp [fgt]) ?_
      obtain ⟨n, h⟩ := h
      exact P_R_piece_53 hΦ n _ _ _ h
    replace h := h.2 e4
    by_cases e5 : a2 = 2
    · refine WP.sw (.tableswitch 111 0 2 #[26, 36, 87], 26, (0, 0), .null) 101 (by decide +kernel) (Or.inl ⟨_, _, _, _, rfl⟩) (by rw [e5]; decide) ?_
      replace h := h.1 e5
      refine WP.blk [(.aload_n 0, 1, (0, 0), .null), (.getfield 22, 3, (7, 6), .null), (.aload_n 0, 1, (0, 0), .null), (.getfield 22, 3, (7, 6), .null)] (G := True) (c' := (109, [some (.ref 39), some (.int a1), some (.int a2), some (.int 0), none], [.ref 44, .ref 44], M)) (by decide +kernel) rfl trivial ?_
      refine WP.call (.invokestatic 146, 3, (157, 1), .null) (by decide +kernel) rfl (sp_R_gearOf (d := d + 1) (by decide) h (fun r6 h => ?_))
      show WP (Ct (d + 2)) 177 Post (112, [some (.ref 39), some (.int a1), some (.int a2), some (.int 0), none], [.int r6, .ref 44], M)
      refine WP.blk [(.aload_n 0, 1, (0, 0), .null), (.getfield 22, 3, (7, 6), .null), (.bipush 23, 2, (0, 0), .int 23), (.iload_n 1, 1, (0, 0), .null), (.iadd, 1, (0, 0), .null), (.iaload, 1, (0, 0), .null)] (G := vp_in (23 + a1) 35 ∧ True) (c' := (121, [some (.ref 39), some (.int a1), some (.int a2), some (.int 0), none], [.int (M 44 (Int32.toNatClampNeg (23 + a1))), .int r6, .ref 44], M)) (by decide +kernel) rfl ⟨h.1, trivial⟩ ?_
      replace h := h.2
      refine WP.call (.invokestatic 79, 3, (159, 3), .null) (by decide +kernel) rfl (sp_R_loadOf (d := d + 1) (by decide) h (fun r7 h => ?_))
      show WP (Ct (d + 2)) 177 Post (124, [some (.ref 39), some (.int a1), some (.int a2), some (.int 0), none], [.int r7], M)
      exact WP.ret (.ireturn, 1, (0, 0), .null) (rk := 1) (by decide +kernel) (by decide +kernel) rfl trivial (hΦ _ h)
    replace h := h.2 e5
    refine WP.sw (.tableswitch 111 0 2 #[26, 36, 87], 26, (0, 0), .null) 125 (by decide +kernel) (Or.inl ⟨_, _, _, _, rfl⟩) (by rw [sw_out (by have := ne_toInt e3; rw [show (0 : Int32).toInt = 0 from by decide] at this; have := ne_toInt e4; rw [show (1 : Int32).toInt = 1 from by decide] at this; have := ne_toInt e5; rw [show (2 : Int32).toInt = 2 from by decide] at this; omega)]; rfl) ?_
    refine WP.blk [(.ldc 61, 2, (0, 0), .int (-1000001))] (G := True) (c' := (127, [some (.ref 39), some (.int a1), some (.int a2), some (.int 0), none], [.int (-1000001)], M)) (by decide +kernel) rfl trivial ?_
    exact WP.ret (.ireturn, 1, (0, 0), .null) (rk := 1) (by decide +kernel) (by decide +kernel) rfl trivial (hΦ _ h)
  · replace h := h.1 (Classical.not_not.mp c2)
    refine WP.blk [(.ldc 61, 2, (0, 0), .int (-1000001))] (G := True) (c' := (10, [some (.ref 39), some (.int a1), some (.int a2), none, none], [.int (-1000001)], M)) (by decide +kernel) rfl trivial ?_
    exact WP.ret (.ireturn, 1, (0, 0), .null) (rk := 1) (by decide +kernel) (by decide +kernel) rfl trivial (hΦ _ h)
/-- GearRoadModel.load(II)I -/
def S_R_load (M : Mm) (a1 : Int32) (a2 : Int32) (Φ : Int32 → Prop) : Prop := S_R_isGear M a1 (fun r1 => ((r1 = 0 → Φ (-1000001)) ∧ (¬ (r1 = 0) → S_R_in M a2 0 9 (fun r3 => ((r3 = 0 → Φ (-1000001)) ∧ (¬ (r3 = 0) → S_R_loadOf 44 M a1 a2 (fun r5 => Φ r5)))))))
set_option maxRecDepth 100000 in
set_option maxHeartbeats 4000000 in
theorem sp_R_load {d : Nat} {Post : Option Value → Mm → Prop} {M : Mm} {a1 : Int32} {a2 : Int32} {Φ : Int32 → Prop} (h : S_R_load M a1 a2 Φ) (hΦ : ∀ r, Φ r → Post (some (.int r)) M) : Ct (d + 2) 179 [.ref 39, .int a1, .int a2] M Post := by
  refine Ct.go (n := 3) (E := [some (.ref 39), some (.int a1), some (.int a2)]) (by decide +kernel) (by simp [Value.category]) rfl ?_
  refine WP.blk [(.aload_n 0, 1, (0, 0), .null), (.iload_n 1, 1, (0, 0), .null)] (G := True) (c' := (2, [some (.ref 39), some (.int a1), some (.int a2)], [.int a1, .ref 39], M)) (by decide +kernel) rfl trivial ?_
  refine WP.call (.invokevirtual 182, 3, (178, 2), .retAddr 7) (by decide +kernel) rfl (sp_R_isGear (d := d + 0) h (fun r1 h => ?_))
  show WP (Ct (d + 1)) 179 Post (5, [some (.ref 39), some (.int a1), some (.int a2)], [.int r1], M)
  refine WP.br (.ifCond .eq 25, 3, (30, 0), .null) (by decide +kernel) rfl (fun c2 => ?_) (fun c2 => ?_)
  · replace h := h.1 c2
    refine WP.blk [(.ldc 61, 2, (0, 0), .int (-1000001))] (G := True) (c' := (32, [some (.ref 39), some (.int a1), some (.int a2)], [.int (-1000001)], M)) (by decide +kernel) rfl trivial ?_
    exact WP.ret (.ireturn, 1, (0, 0), .null) (rk := 1) (by decide +kernel) (by decide +kernel) rfl trivial (hΦ _ h)
  · replace h := h.2 c2
    refine WP.blk [(.iload_n 2, 1, (0, 0), .null), (.iconst 0, 1, (0, 0), .int 0), (.bipush 9, 2, (0, 0), .int 9)] (G := True) (c' := (12, [some (.ref 39), some (.int a1), some (.int a2)], [.int 9, .int 0, .int a2], M)) (by decide +kernel) rfl trivial ?_
    refine WP.call (.invokestatic 53, 3, (135, 3), .null) (by decide +kernel) rfl (sp_R_in (d := d + 0) h (fun r3 h => ?_))
    show WP (Ct (d + 1)) 179 Post (15, [some (.ref 39), some (.int a1), some (.int a2)], [.int r3], M)
    refine WP.br (.ifCond .eq 15, 3, (30, 0), .null) (by decide +kernel) rfl (fun c4 => ?_) (fun c4 => ?_)
    · replace h := h.1 c4
      refine WP.blk [(.ldc 61, 2, (0, 0), .int (-1000001))] (G := True) (c' := (32, [some (.ref 39), some (.int a1), some (.int a2)], [.int (-1000001)], M)) (by decide +kernel) rfl trivial ?_
      exact WP.ret (.ireturn, 1, (0, 0), .null) (rk := 1) (by decide +kernel) (by decide +kernel) rfl trivial (hΦ _ h)
    · replace h := h.2 c4
      refine WP.blk [(.aload_n 0, 1, (0, 0), .null), (.getfield 22, 3, (7, 6), .null), (.iload_n 1, 1, (0, 0), .null), (.iload_n 2, 1, (0, 0), .null)] (G := True) (c' := (24, [some (.ref 39), some (.int a1), some (.int a2)], [.int a2, .int a1, .ref 44], M)) (by decide +kernel) rfl trivial ?_
      refine WP.call (.invokestatic 79, 3, (159, 3), .null) (by decide +kernel) rfl (sp_R_loadOf (d := d + 0) (by decide) h (fun r5 h => ?_))
      show WP (Ct (d + 1)) 179 Post (27, [some (.ref 39), some (.int a1), some (.int a2)], [.int r5], M)
      refine WP.blk [(.goto 5, 3, (32, 0), .null)] (G := True) (c' := (32, [some (.ref 39), some (.int a1), some (.int a2)], [.int r5], M)) (by decide +kernel) rfl trivial ?_
      exact WP.ret (.ireturn, 1, (0, 0), .null) (rk := 1) (by decide +kernel) (by decide +kernel) rfl trivial (hΦ _ h)
/-- GearRoadModel.rounds(I)I -/
def S_R_rounds (M : Mm) (a1 : Int32) (Φ : Int32 → Prop) : Prop := S_R_isGear M a1 (fun r1 => ((r1 = 0 → Φ (-1000001)) ∧ (¬ (r1 = 0) → S_R_turnsOf 44 M a1 (fun r3 => Φ r3))))
set_option maxRecDepth 100000 in
set_option maxHeartbeats 4000000 in
theorem sp_R_rounds {d : Nat} {Post : Option Value → Mm → Prop} {M : Mm} {a1 : Int32} {Φ : Int32 → Prop} (h : S_R_rounds M a1 Φ) (hΦ : ∀ r, Φ r → Post (some (.int r)) M) : Ct (d + 2) 180 [.ref 39, .int a1] M Post := by
  refine Ct.go (n := 2) (E := [some (.ref 39), some (.int a1)]) (by decide +kernel) (by simp [Value.category]) rfl ?_
  refine WP.blk [(.aload_n 0, 1, (0, 0), .null), (.iload_n 1, 1, (0, 0), .null)] (G := True) (c' := (2, [some (.ref 39), some (.int a1)], [.int a1, .ref 39], M)) (by decide +kernel) rfl trivial ?_
  refine WP.call (.invokevirtual 182, 3, (178, 2), .retAddr 7) (by decide +kernel) rfl (sp_R_isGear (d := d + 0) h (fun r1 h => ?_))
  show WP (Ct (d + 1)) 180 Post (5, [some (.ref 39), some (.int a1)], [.int r1], M)
  refine WP.br (.ifCond .eq 14, 3, (19, 0), .null) (by decide +kernel) rfl (fun c2 => ?_) (fun c2 => ?_)
  · replace h := h.1 c2
    refine WP.blk [(.ldc 61, 2, (0, 0), .int (-1000001))] (G := True) (c' := (21, [some (.ref 39), some (.int a1)], [.int (-1000001)], M)) (by decide +kernel) rfl trivial ?_
    exact WP.ret (.ireturn, 1, (0, 0), .null) (rk := 1) (by decide +kernel) (by decide +kernel) rfl trivial (hΦ _ h)
  · replace h := h.2 c2
    refine WP.blk [(.aload_n 0, 1, (0, 0), .null), (.getfield 22, 3, (7, 6), .null), (.iload_n 1, 1, (0, 0), .null)] (G := True) (c' := (13, [some (.ref 39), some (.int a1)], [.int a1, .ref 44], M)) (by decide +kernel) rfl trivial ?_
    refine WP.call (.invokestatic 158, 3, (161, 2), .null) (by decide +kernel) rfl (sp_R_turnsOf (d := d + 0) (by decide) h (fun r3 h => ?_))
    show WP (Ct (d + 1)) 180 Post (16, [some (.ref 39), some (.int a1)], [.int r3], M)
    refine WP.blk [(.goto 5, 3, (21, 0), .null)] (G := True) (c' := (21, [some (.ref 39), some (.int a1)], [.int r3], M)) (by decide +kernel) rfl trivial ?_
    exact WP.ret (.ireturn, 1, (0, 0), .null) (rk := 1) (by decide +kernel) (by decide +kernel) rfl trivial (hΦ _ h)
/-- GearRoadModel.costOf(III)I -/
def D_R_costOf_50 (M : Mm) (Φ : Int32 → Prop) (rec_50 : Int32 × Int32 × Int32 × Int32 × Int32 → Prop) : Int32 × Int32 × Int32 × Int32 × Int32 → Prop
  | (x1, x2, x3, x4, x5) => ((x4 = (irm x1 6) → Φ x3) ∧ (¬ (x4 = (irm x1 6)) → S_R_canLeave 44 M x4 x2 (fun r7 => ((r7 = 0 → Φ (-1000000)) ∧ (¬ (r7 = 0) → S_R_shiftOnto 44 M (x4 + x5) (fun r9 => rec_50 (x1, x2, (x3 + r9), (x4 + x5), x5)))))))
def D_R_costOf_48 (M : Mm) (Φ : Int32 → Prop) : Int32 × Int32 × Int32 × Int32 × Int32 → Prop
  | (x1, x2, x3, x4, x5) => ∃ n, lp (D_R_costOf_50 M Φ) n (x1, x2, x3, x4, x5)
def D_R_costOf_25 (M : Mm) (Φ : Int32 → Prop) : Int32 × Int32 × Int32 × Int32 × Int32 → Prop
  | (x1, x2, x3, x4, x5) => (((irm x2 6) ≤ (irm x1 6) → D_R_costOf_48 M Φ (x2, x3, (x5 * x4), (irm x1 6), (-1))) ∧ (¬ ((irm x2 6) ≤ (irm x1 6)) → D_R_costOf_48 M Φ (x2, x3, (x5 * x4), (irm x1 6), 1)))
def S_R_costOf (M : Mm) (a1 : Int32) (a2 : Int32) (a3 : Int32) (Φ : Int32 → Prop) : Prop := ((0 ≤ ((a1 / 6) - (a2 / 6)) → D_R_costOf_25 M Φ (a1, a2, a3, ((a1 / 6) - (a2 / 6)), 5)) ∧ (¬ (0 ≤ ((a1 / 6) - (a2 / 6))) → D_R_costOf_25 M Φ (a1, a2, a3, (-((a1 / 6) - (a2 / 6))), 5)))
set_option maxRecDepth 100000 in
set_option maxHeartbeats 4000000 in
theorem L_R_costOf_50 {d : Nat} {Post : Option Value → Mm → Prop} {M : Mm} {rec_50 : Int32 × Int32 × Int32 × Int32 × Int32 → Prop} {Φ : Int32 → Prop} (hΦ : ∀ r, Φ r → Post (some (.int r)) M) (hrec_50 : ∀ (x1 : Int32) (x2 : Int32) (x3 : Int32) (x4 : Int32) (x5 : Int32), rec_50 (x1, x2, x3, x4, x5) → WP (Ct (d + 1)) 182 Post (50, [some (.ref 39), none, some (.int x1), some (.int x2), none, some (.int x3), some (.int x4), some (.int x5)], [], M)) : ∀ (x1 : Int32) (x2 : Int32) (x3 : Int32) (x4 : Int32) (x5 : Int32), D_R_costOf_50 M Φ rec_50 (x1, x2, x3, x4, x5) → WP (Ct (d + 1)) 182 Post (50, [some (.ref 39), none, some (.int x1), some (.int x2), none, some (.int x3), some (.int x4), some (.int x5)], [], M) := by
  intro x1 x2 x3 x4 x5 h
  replace h : ((x4 = (irm x1 6) → Φ x3) ∧ (¬ (x4 = (irm x1 6)) → S_R_canLeave 44 M x4 x2 (fun r7 => ((r7 = 0 → Φ (-1000000)) ∧ (¬ (r7 = 0) → S_R_shiftOnto 44 M (x4 + x5) (fun r9 => rec_50 (x1, x2, (x3 + r9), (x4 + x5), x5))))))) := h
  refine WP.blk [(.iload 6, 2, (0, 0), .null), (.iload_n 2, 1, (0, 0), .null), (.bipush 6, 2, (0, 0), .int 6), (.irem, 1, (0, 0), .null)] (G := ¬ (6 : Int32) = 0 ∧ True) (c' := (56, [some (.ref 39), none, some (.int x1), some (.int x2), none, some (.int x3), some (.int x4), some (.int x5)], [.int (irm x1 6), .int x4], M)) (by decide +kernel) rfl ⟨(by decide), trivial⟩ ?_
  refine WP.br (.if_icmp .eq 43, 3, (99, 0), .null) (by decide +kernel) rfl (fun c6 => ?_) (fun c6 => ?_)
  · replace h := h.1 c6
    refine WP.blk [(.iload 5, 2, (0, 0), .null)] (G := True) (c' := (101, [some (.ref 39), none, some (.int x1), some (.int x2), none, some (.int x3), some (.int x4), some (.int x5)], [.int x3], M)) (by decide +kernel) rfl trivial ?_
    exact WP.ret (.ireturn, 1, (0, 0), .null) (rk := 1) (by decide +kernel) (by decide +kernel) rfl trivial (hΦ _ h)
  · replace h := h.2 c6
    refine WP.blk [(.aload_n 0, 1, (0, 0), .null), (.getfield 22, 3, (7, 6), .null), (.iload 6, 2, (0, 0), .null), (.iload_n 3, 1, (0, 0), .null)] (G := True) (c' := (66, [some (.ref 39), none, some (.int x1), some (.int x2), none, some (.int x3), some (.int x4), some (.int x5)], [.int x2, .int x4, .ref 44], M)) (by decide +kernel) rfl trivial ?_
    refine WP.call (.invokestatic 169, 3, (166, 3), .null) (by decide +kernel) rfl (sp_R_canLeave (d := d + 0) (by decide) h (fun r7 h => ?_))
    show WP (Ct (d + 1)) 182 Post (69, [some (.ref 39), none, some (.int x1), some (.int x2), none, some (.int x3), some (.int x4), some (.int x5)], [.int r7], M)
    refine WP.br (.ifCond .ne 6, 3, (75, 0), .null) (by decide +kernel) rfl (fun c8 => ?_) (fun c8 => ?_)
    · replace h := h.2 c8
      refine WP.blk [(.iload 6, 2, (0, 0), .null), (.iload 7, 2, (0, 0), .null), (.iadd, 1, (0, 0), .null), (.istore 6, 2, (0, 0), .null), (.iload 5, 2, (0, 0), .null), (.aload_n 0, 1, (0, 0), .null), (.getfield 22, 3, (7, 6), .null), (.iload 6, 2, (0, 0), .null)] (G := True) (c' := (90, [some (.ref 39), none, some (.int x1), some (.int x2), none, some (.int x3), some (.int (x4 + x5)), some (.int x5)], [.int (x4 + x5), .ref 44, .int x3], M)) (by decide +kernel) rfl trivial ?_
      refine WP.call (.invokestatic 172, 3, (167, 2), .null) (by decide +kernel) rfl (sp_R_shiftOnto (d := d + 0) (by decide) h (fun r9 h => ?_))
      show WP (Ct (d + 1)) 182 Post (93, [some (.ref 39), none, some (.int x1), some (.int x2), none, some (.int x3), some (.int (x4 + x5)), some (.int x5)], [.int r9, .int x3], M)
      refine WP.blk [(.iadd, 1, (0, 0), .null), (.istore 5, 2, (0, 0), .null), (.goto (-46), 3, (50, 0), .null)] (G := True) (c' := (50, [some (.ref 39), none, some (.int x1), some (.int x2), none, some (.int (x3 + r9)), some (.int (x4 + x5)), some (.int x5)], [], M)) (by decide +kernel) rfl trivial ?_
      exact hrec_50 _ _ _ _ _ h
    · replace h := h.1 (Classical.not_not.mp c8)
      refine WP.blk [(.ldc 185, 2, (0, 0), .int (-1000000))] (G := True) (c' := (74, [some (.ref 39), none, some (.int x1), some (.int x2), none, some (.int x3), some (.int x4), some (.int x5)], [.int (-1000000)], M)) (by decide +kernel) rfl trivial ?_
      exact WP.ret (.ireturn, 1, (0, 0), .null) (rk := 1) (by decide +kernel) (by decide +kernel) rfl trivial (hΦ _ h)
theorem P_R_costOf_50 {d : Nat} {Post : Option Value → Mm → Prop} {M : Mm} {Φ : Int32 → Prop} (hΦ : ∀ r, Φ r → Post (some (.int r)) M) : ∀ (n : Nat) (x1 : Int32) (x2 : Int32) (x3 : Int32) (x4 : Int32) (x5 : Int32), lp (D_R_costOf_50 M Φ) n (x1, x2, x3, x4, x5) → WP (Ct (d + 1)) 182 Post (50, [some (.ref 39), none, some (.int x1), some (.int x2), none, some (.int x3), some (.int x4), some (.int x5)], [], M)
  | 0, x1, x2, x3, x4, x5, h => absurd h (by simp [lp])
  | n + 1, x1, x2, x3, x4, x5, h => L_R_costOf_50 hΦ (P_R_costOf_50 hΦ n) x1 x2 x3 x4 x5 h
set_option maxRecDepth 100000 in
set_option maxHeartbeats 4000000 in
theorem L_R_costOf_48 {d : Nat} {Post : Option Value → Mm → Prop} {M : Mm} {Φ : Int32 → Prop} (hΦ : ∀ r, Φ r → Post (some (.int r)) M) : ∀ (x1 : Int32) (x2 : Int32) (x3 : Int32) (x4 : Int32) (x5 : Int32), D_R_costOf_48 M Φ (x1, x2, x3, x4, x5) → WP (Ct (d + 1)) 182 Post (48, [some (.ref 39), none, some (.int x1), some (.int x2), none, some (.int x3), some (.int x4), none], [.int x5], M) := by
  intro x1 x2 x3 x4 x5 h
  replace h : ∃ n, lp (D_R_costOf_50 M Φ) n (x1, x2, x3, x4, x5) := h
  refine WP.blk [(.istore 7, 2, (0, 0), .null)] (G := True) (c' := (50, [some (.ref 39), none, some (.int x1), some (.int x2), none, some (.int x3), some (.int x4), some (.int x5)], [], M)) (by decide +kernel) rfl trivial ?_
  obtain ⟨n, h⟩ := h
  exact P_R_costOf_50 hΦ n _ _ _ _ _ h
set_option maxRecDepth 100000 in
set_option maxHeartbeats 4000000 in
theorem L_R_costOf_25 {d : Nat} {Post : Option Value → Mm → Prop} {M : Mm} {Φ : Int32 → Prop} (hΦ : ∀ r, Φ r → Post (some (.int r)) M) : ∀ (x1 : Int32) (x2 : Int32) (x3 : Int32) (x4 : Int32) (x5 : Int32), D_R_costOf_25 M Φ (x1, x2, x3, x4, x5) → WP (Ct (d + 1)) 182 Post (25, [some (.ref 39), some (.int x1), some (.int x2), some (.int x3), none, none, none, none], [.int x4, .int x5], M) := by
  intro x1 x2 x3 x4 x5 h
  replace h : (((irm x2 6) ≤ (irm x1 6) → D_R_costOf_48 M Φ (x2, x3, (x5 * x4), (irm x1 6), (-1))) ∧ (¬ ((irm x2 6) ≤ (irm x1 6)) → D_R_costOf_48 M Φ (x2, x3, (x5 * x4), (irm x1 6), 1))) := h
  refine WP.blk [(.imul, 1, (0, 0), .null), (.istore 5, 2, (0, 0), .null), (.iload_n 1, 1, (0, 0), .null), (.bipush 6, 2, (0, 0), .int 6), (.irem, 1, (0, 0), .null), (.istore 6, 2, (0, 0), .null), (.iload_n 2, 1, (0, 0), .null), (.bipush 6, 2, (0, 0), .int 6), (.irem, 1, (0, 0), .null), (.iload 6, 2, (0, 0), .null)] (G := ¬ (6 : Int32) = 0 ∧ ¬ (6 : Int32) = 0 ∧ True) (c' := (40, [some (.ref 39), some (.int x1), some (.int x2), some (.int x3), none, some (.int (x5 * x4)), some (.int (irm x1 6)), none], [.int (irm x1 6), .int (irm x2 6)], M)) (by decide +kernel) rfl ⟨(by decide), (by decide), trivial⟩ ?_
  refine WP.br (.if_icmp .le 7, 3, (47, 0), .null) (by decide +kernel) rfl (fun c6 => ?_) (fun c6 => ?_)
  · replace h := h.1 c6
    refine WP.blk [(.iconst (-1), 1, (0, 0), .int (-1))] (G := True) (c' := (48, [some (.ref 39), some (.int x1), some (.int x2), some (.int x3), none, some (.int (x5 * x4)), some (.int (irm x1 6)), none], [.int (-1)], M)) (by decide +kernel) rfl trivial ?_
    refine WP.fgt [some (.ref 39), none, some (.int x2), some (.int x3), none, some (.int (x5 * x4)), some (.int (irm x1 6)), none] (by simp [fgt]) ?_
    exact L_R_costOf_48 hΦ _ _ _ _ _ h
  · replace h := h.2 c6
    refine WP.blk [(.iconst 1, 1, (0, 0), .int 1), (.goto 4, 3, (48, 0), .null)] (G := True) (c' := (48, [some (.ref 39), some (.int x1), some (.int x2), some (.int x3), none, some (.int (x5 * x4)), some (.int (irm x1 6)), none], [.int 1], M)) (by decide +kernel) rfl trivial ?_
    refine WP.fgt [some (.ref 39), none, some (.int x2), some (.int x3), none, some (.int (x5 * x4)), some (.int (irm x1 6)), none] (by simp [fgt]) ?_
    exact L_R_costOf_48 hΦ _ _ _ _ _ h
set_option maxRecDepth 100000 in
set_option maxHeartbeats 4000000 in
theorem sp_R_costOf {d : Nat} {Post : Option Value → Mm → Prop} {M : Mm} {a1 : Int32} {a2 : Int32} {a3 : Int32} {Φ : Int32 → Prop} (h : S_R_costOf M a1 a2 a3 Φ) (hΦ : ∀ r, Φ r → Post (some (.int r)) M) : Ct (d + 2) 182 [.ref 39, .int a1, .int a2, .int a3] M Post := by
  refine Ct.go (n := 8) (E := [some (.ref 39), some (.int a1), some (.int a2), some (.int a3), none, none, none, none]) (by decide +kernel) (by simp [Value.category]) rfl ?_
  refine WP.blk [(.iload_n 1, 1, (0, 0), .null), (.bipush 6, 2, (0, 0), .int 6), (.idiv, 1, (0, 0), .null), (.iload_n 2, 1, (0, 0), .null), (.bipush 6, 2, (0, 0), .int 6), (.idiv, 1, (0, 0), .null), (.isub, 1, (0, 0), .null), (.istore 4, 2, (0, 0), .null), (.iconst 5, 1, (0, 0), .int 5), (.iload 4, 2, (0, 0), .null)] (G := ¬ (6 : Int32) = 0 ∧ ¬ (6 : Int32) = 0 ∧ True) (c' := (14, [some (.ref 39), some (.int a1), some (.int a2), some (.int a3), some (.int ((a1 / 6) - (a2 / 6))), none, none, none], [.int ((a1 / 6) - (a2 / 6)), .int 5], M)) (by decide +kernel) rfl ⟨(by decide), (by decide), trivial⟩ ?_
  refine WP.br (.ifCond .ge 9, 3, (23, 0), .null) (by decide +kernel) rfl (fun c1 => ?_) (fun c1 => ?_)
  · replace h := h.1 c1
    refine WP.blk [(.iload 4, 2, (0, 0), .null)] (G := True) (c' := (25, [some (.ref 39), some (.int a1), some (.int a2), some (.int a3), some (.int ((a1 / 6) - (a2 / 6))), none, none, none], [.int ((a1 / 6) - (a2 / 6)), .int 5], M)) (by decide +kernel) rfl trivial ?_
    refine WP.fgt [some (.ref 39), some (.int a1), some (.int a2), some (.int a3), none, none, none, none] (by simp [fgt]) ?_
    exact L_R_costOf_25 hΦ _ _ _ _ _ h
  · replace h := h.2 c1
    refine WP.blk [(.iload 4, 2, (0, 0), .null), (.ineg, 1, (0, 0), .null), (.goto 5, 3, (25, 0), .null)] (G := True) (c' := (25, [some (.ref 39), some (.int a1), some (.int a2), some (.int a3), some (.int ((a1 / 6) - (a2 / 6))), none, none, none], [.int (-((a1 / 6) - (a2 / 6))), .int 5], M)) (by decide +kernel) rfl trivial ?_
    refine WP.fgt [some (.ref 39), some (.int a1), some (.int a2), some (.int a3), none, none, none, none] (by simp [fgt]) ?_
    exact L_R_costOf_25 hΦ _ _ _ _ _ h
/-- GearRoadModel.cost(II)I -/
def S_R_cost (M : Mm) (a1 : Int32) (a2 : Int32) (Φ : Int32 → Prop) : Prop := S_R_isGear M a1 (fun r1 => ((r1 = 0 → Φ (-1000001)) ∧ (¬ (r1 = 0) → S_R_isGear M a2 (fun r3 => ((r3 = 0 → Φ (-1000001)) ∧ (¬ (r3 = 0) → S_R_costOf M a1 a2 (M 44 (Int32.toNatClampNeg 6)) (fun r5 => Φ r5)))))))
set_option maxRecDepth 100000 in
set_option maxHeartbeats 4000000 in
theorem sp_R_cost {d : Nat} {Post : Option Value → Mm → Prop} {M : Mm} {a1 : Int32} {a2 : Int32} {Φ : Int32 → Prop} (h : S_R_cost M a1 a2 Φ) (hΦ : ∀ r, Φ r → Post (some (.int r)) M) : Ct (d + 3) 181 [.ref 39, .int a1, .int a2] M Post := by
  refine Ct.go (n := 3) (E := [some (.ref 39), some (.int a1), some (.int a2)]) (by decide +kernel) (by simp [Value.category]) rfl ?_
  refine WP.blk [(.aload_n 0, 1, (0, 0), .null), (.iload_n 1, 1, (0, 0), .null)] (G := True) (c' := (2, [some (.ref 39), some (.int a1), some (.int a2)], [.int a1, .ref 39], M)) (by decide +kernel) rfl trivial ?_
  refine WP.call (.invokevirtual 182, 3, (178, 2), .retAddr 7) (by decide +kernel) rfl (sp_R_isGear (d := d + 1) h (fun r1 h => ?_))
  show WP (Ct (d + 2)) 181 Post (5, [some (.ref 39), some (.int a1), some (.int a2)], [.int r1], M)
  refine WP.br (.ifCond .eq 27, 3, (32, 0), .null) (by decide +kernel) rfl (fun c2 => ?_) (fun c2 => ?_)
  · replace h := h.1 c2
    refine WP.blk [(.ldc 61, 2, (0, 0), .int (-1000001))] (G := True) (c' := (34, [some (.ref 39), some (.int a1), some (.int a2)], [.int (-1000001)], M)) (by decide +kernel) rfl trivial ?_
    exact WP.ret (.ireturn, 1, (0, 0), .null) (rk := 1) (by decide +kernel) (by decide +kernel) rfl trivial (hΦ _ h)
  · replace h := h.2 c2
    refine WP.blk [(.aload_n 0, 1, (0, 0), .null), (.iload_n 2, 1, (0, 0), .null)] (G := True) (c' := (10, [some (.ref 39), some (.int a1), some (.int a2)], [.int a2, .ref 39], M)) (by decide +kernel) rfl trivial ?_
    refine WP.call (.invokevirtual 182, 3, (178, 2), .retAddr 7) (by decide +kernel) rfl (sp_R_isGear (d := d + 1) h (fun r3 h => ?_))
    show WP (Ct (d + 2)) 181 Post (13, [some (.ref 39), some (.int a1), some (.int a2)], [.int r3], M)
    refine WP.br (.ifCond .eq 19, 3, (32, 0), .null) (by decide +kernel) rfl (fun c4 => ?_) (fun c4 => ?_)
    · replace h := h.1 c4
      refine WP.blk [(.ldc 61, 2, (0, 0), .int (-1000001))] (G := True) (c' := (34, [some (.ref 39), some (.int a1), some (.int a2)], [.int (-1000001)], M)) (by decide +kernel) rfl trivial ?_
      exact WP.ret (.ireturn, 1, (0, 0), .null) (rk := 1) (by decide +kernel) (by decide +kernel) rfl trivial (hΦ _ h)
    · replace h := h.2 c4
      refine WP.blk [(.aload_n 0, 1, (0, 0), .null), (.iload_n 1, 1, (0, 0), .null), (.iload_n 2, 1, (0, 0), .null), (.aload_n 0, 1, (0, 0), .null), (.getfield 22, 3, (7, 6), .null), (.bipush 6, 2, (0, 0), .int 6), (.iaload, 1, (0, 0), .null)] (G := vp_in 6 35 ∧ True) (c' := (26, [some (.ref 39), some (.int a1), some (.int a2)], [.int (M 44 (Int32.toNatClampNeg 6)), .int a2, .int a1, .ref 39], M)) (by decide +kernel) rfl ⟨(vp_lit (by decide)), trivial⟩ ?_
      refine WP.call (.invokevirtual 186, 3, (182, 4), .retAddr 7) (by decide +kernel) rfl (sp_R_costOf (d := d + 0) h (fun r5 h => ?_))
      show WP (Ct (d + 2)) 181 Post (29, [some (.ref 39), some (.int a1), some (.int a2)], [.int r5], M)
      refine WP.blk [(.goto 5, 3, (34, 0), .null)] (G := True) (c' := (34, [some (.ref 39), some (.int a1), some (.int a2)], [.int r5], M)) (by decide +kernel) rfl trivial ?_
      exact WP.ret (.ireturn, 1, (0, 0), .null) (rk := 1) (by decide +kernel) (by decide +kernel) rfl trivial (hΦ _ h)
