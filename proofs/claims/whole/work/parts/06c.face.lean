/-- GearRoad$Rows.isRow(I)Z -/
def S_Rows_isRow (M : Mm) (a1 : Int32) (Φ : Int32 → Prop) : Prop := S_within M a1 0 7 (fun r1 => ((r1 = 0 ∨ r1 = 1) ∧ Φ r1))
set_option maxRecDepth 100000 in
set_option maxHeartbeats 4000000 in
theorem sp_Rows_isRow {d : Nat} {Post : Option Value → Mm → Prop} {M : Mm} {a1 : Int32} {Φ : Int32 → Prop} (h : S_Rows_isRow M a1 Φ) (hΦ : ∀ r, Φ r → Post (some (.int r)) M) : Ct (d + 2) 9 [.int a1] M Post := by
  refine Ct.go (n := 1) (E := [some (.int a1)]) (by decide +kernel) (by simp [Value.category]) rfl ?_
  refine WP.blk [(.iload_n 0, 1, (0, 0), .null), (.iconst 0, 1, (0, 0), .int 0), (.bipush 7, 2, (0, 0), .int 7)] (G := True) (c' := (4, [some (.int a1)], [.int 7, .int 0, .int a1], M)) (by decide +kernel) rfl trivial ?_
  refine WP.call (.invokestatic 19, 3, (10, 3), .null) (by decide +kernel) rfl (sp_within (d := d + 0) h (fun r1 h => ?_))
  show WP (Ct (d + 1)) 9 Post (7, [some (.int a1)], [.int r1], M)
  exact WP.ret (.ireturn, 1, (0, 0), .null) (rk := 2) (by decide +kernel) (by decide +kernel) rfl h.1 (hΦ _ h.2)
/-- GearRoad.found(I)I -/
def S_found (M : Mm) (a1 : Int32) (Φ : Int32 → Mm → Prop) : Prop := (∀ M1, M1 = mu M 0 8 a1 → Φ ((-1000010) - a1) M1)
set_option maxRecDepth 100000 in
set_option maxHeartbeats 4000000 in
theorem sp_found {d : Nat} {Post : Option Value → Mm → Prop} {M : Mm} {a1 : Int32} {Φ : Int32 → Mm → Prop} (h : S_found M a1 Φ) (hΦ : ∀ r M1, Φ r M1 → Post (some (.int r)) M1) : Ct (d + 1) 11 [.ref 0, .int a1] M Post := by
  refine Ct.go (n := 2) (E := [some (.ref 0), some (.int a1)]) (by decide +kernel) (by simp [Value.category]) rfl ?_
  refine WP.blk [(.aload_n 0, 1, (0, 0), .null), (.iload_n 1, 1, (0, 0), .null), (.putfield 58, 3, (6, 8), .null)] (G := True) (c' := (5, [some (.ref 0), some (.int a1)], [], (mu M 0 8 a1))) (by decide +kernel) rfl trivial ?_
  replace h := h (mu M 0 8 a1) rfl
  generalize (mu M 0 8 a1) = M1 at h ⊢
  refine WP.blk [(.ldc_w 305, 3, (0, 0), .int (-1000010)), (.iload_n 1, 1, (0, 0), .null), (.isub, 1, (0, 0), .null)] (G := True) (c' := (10, [some (.ref 0), some (.int a1)], [.int ((-1000010) - a1)], M1)) (by decide +kernel) rfl trivial ?_
  exact WP.ret (.ireturn, 1, (0, 0), .null) (rk := 1) (by decide +kernel) (by decide +kernel) rfl trivial (hΦ _ _ h)
/-- GearRoad.unfound(I)I -/
def S_unfound (M : Mm) (a1 : Int32) (Φ : Int32 → Mm → Prop) : Prop := (∀ M1, M1 = mu M 0 8 0 → Φ a1 M1)
set_option maxRecDepth 100000 in
set_option maxHeartbeats 4000000 in
theorem sp_unfound {d : Nat} {Post : Option Value → Mm → Prop} {M : Mm} {a1 : Int32} {Φ : Int32 → Mm → Prop} (h : S_unfound M a1 Φ) (hΦ : ∀ r M1, Φ r M1 → Post (some (.int r)) M1) : Ct (d + 1) 14 [.ref 0, .int a1] M Post := by
  refine Ct.go (n := 2) (E := [some (.ref 0), some (.int a1)]) (by decide +kernel) (by simp [Value.category]) rfl ?_
  refine WP.blk [(.aload_n 0, 1, (0, 0), .null), (.iconst 0, 1, (0, 0), .int 0), (.putfield 58, 3, (6, 8), .null)] (G := True) (c' := (5, [some (.ref 0), some (.int a1)], [], (mu M 0 8 0))) (by decide +kernel) rfl trivial ?_
  replace h := h (mu M 0 8 0) rfl
  generalize (mu M 0 8 0) = M1 at h ⊢
  refine WP.blk [(.iload_n 1, 1, (0, 0), .null)] (G := True) (c' := (6, [some (.ref 0), some (.int a1)], [.int a1], M1)) (by decide +kernel) rfl trivial ?_
  exact WP.ret (.ireturn, 1, (0, 0), .null) (rk := 1) (by decide +kernel) (by decide +kernel) rfl trivial (hΦ _ _ h)
/-- GearRoad.row(III)I -/
def S_row (M : Mm) (a1 : Int32) (a2 : Int32) (a3 : Int32) (Φ : Int32 → Mm → Prop) : Prop := S_Rows_isRow M a1 (fun r1 => ((r1 = 0 → Φ (-1000001) M) ∧ (¬ (r1 = 0) → S_within M a2 0 2 (fun r3 => ((r3 = 0 → Φ (-1000001) M) ∧ (¬ (r3 = 0) → ((a3 ≤ 40 → ((0 ≤ a3 → S_Rows_make M a1 a2 a3 (fun M7 => S_unfound M7 a3 (fun r8 M8 => Φ r8 M8))) ∧ (¬ (0 ≤ a3) → S_found M 4 (fun r9 M9 => Φ r9 M9)))) ∧ (¬ (a3 ≤ 40) → Φ (-1000001) M))))))))
set_option maxRecDepth 100000 in
set_option maxHeartbeats 4000000 in
theorem sp_row {d : Nat} {Post : Option Value → Mm → Prop} {M : Mm} {a1 : Int32} {a2 : Int32} {a3 : Int32} {Φ : Int32 → Mm → Prop} (h : S_row M a1 a2 a3 Φ) (hΦ : ∀ r M1, Φ r M1 → Post (some (.int r)) M1) : Ct (d + 3) 8 [.ref 0, .int a1, .int a2, .int a3] M Post := by
  refine Ct.go (n := 4) (E := [some (.ref 0), some (.int a1), some (.int a2), some (.int a3)]) (by decide +kernel) (by simp [Value.category]) rfl ?_
  refine WP.blk [(.iload_n 1, 1, (0, 0), .null)] (G := True) (c' := (1, [some (.ref 0), some (.int a1), some (.int a2), some (.int a3)], [.int a1], M)) (by decide +kernel) rfl trivial ?_
  refine WP.call (.invokestatic 65, 3, (9, 1), .null) (by decide +kernel) rfl (sp_Rows_isRow (d := d + 0) h (fun r1 h => ?_))
  show WP (Ct (d + 2)) 8 Post (4, [some (.ref 0), some (.int a1), some (.int a2), some (.int a3)], [.int r1], M)
  refine WP.br (.ifCond .eq 18, 3, (22, 0), .null) (by decide +kernel) rfl (fun c2 => ?_) (fun c2 => ?_)
  · replace h := h.1 c2
    refine WP.blk [(.ldc 73, 2, (0, 0), .int (-1000001))] (G := True) (c' := (24, [some (.ref 0), some (.int a1), some (.int a2), some (.int a3)], [.int (-1000001)], M)) (by decide +kernel) rfl trivial ?_
    exact WP.ret (.ireturn, 1, (0, 0), .null) (rk := 1) (by decide +kernel) (by decide +kernel) rfl trivial (hΦ _ _ h)
  · replace h := h.2 c2
    refine WP.blk [(.iload_n 2, 1, (0, 0), .null), (.iconst 0, 1, (0, 0), .int 0), (.iconst 2, 1, (0, 0), .int 2)] (G := True) (c' := (10, [some (.ref 0), some (.int a1), some (.int a2), some (.int a3)], [.int 2, .int 0, .int a2], M)) (by decide +kernel) rfl trivial ?_
    refine WP.call (.invokestatic 69, 3, (10, 3), .null) (by decide +kernel) rfl (sp_within (d := d + 1) h (fun r3 h => ?_))
    show WP (Ct (d + 2)) 8 Post (13, [some (.ref 0), some (.int a1), some (.int a2), some (.int a3)], [.int r3], M)
    refine WP.br (.ifCond .eq 9, 3, (22, 0), .null) (by decide +kernel) rfl (fun c4 => ?_) (fun c4 => ?_)
    · replace h := h.1 c4
      refine WP.blk [(.ldc 73, 2, (0, 0), .int (-1000001))] (G := True) (c' := (24, [some (.ref 0), some (.int a1), some (.int a2), some (.int a3)], [.int (-1000001)], M)) (by decide +kernel) rfl trivial ?_
      exact WP.ret (.ireturn, 1, (0, 0), .null) (rk := 1) (by decide +kernel) (by decide +kernel) rfl trivial (hΦ _ _ h)
    · replace h := h.2 c4
      refine WP.blk [(.iload_n 3, 1, (0, 0), .null), (.bipush 40, 2, (0, 0), .int 40)] (G := True) (c' := (19, [some (.ref 0), some (.int a1), some (.int a2), some (.int a3)], [.int 40, .int a3], M)) (by decide +kernel) rfl trivial ?_
      refine WP.br (.if_icmp .le 6, 3, (25, 0), .null) (by decide +kernel) rfl (fun c5 => ?_) (fun c5 => ?_)
      · replace h := h.1 c5
        refine WP.blk [(.iload_n 3, 1, (0, 0), .null)] (G := True) (c' := (26, [some (.ref 0), some (.int a1), some (.int a2), some (.int a3)], [.int a3], M)) (by decide +kernel) rfl trivial ?_
        refine WP.br (.ifCond .ge 9, 3, (35, 0), .null) (by decide +kernel) rfl (fun c6 => ?_) (fun c6 => ?_)
        · replace h := h.1 c6
          refine WP.blk [(.aload_n 0, 1, (0, 0), .null), (.getfield 12, 3, (6, 0), .null), (.iload_n 1, 1, (0, 0), .null), (.iload_n 2, 1, (0, 0), .null), (.iload_n 3, 1, (0, 0), .null)] (G := True) (c' := (42, [some (.ref 0), some (.int a1), some (.int a2), some (.int a3)], [.int a3, .int a2, .int a1, .ref 1], M)) (by decide +kernel) rfl trivial ?_
          refine WP.call (.invokevirtual 78, 3, (12, 4), .retAddr 3) (by decide +kernel) rfl (sp_Rows_make (d := d + 0) h (fun M7 h => ?_))
          show WP (Ct (d + 2)) 8 Post (45, [some (.ref 0), some (.int a1), some (.int a2), some (.int a3)], [], M7)
          refine WP.blk [(.aload_n 0, 1, (0, 0), .null), (.iload_n 3, 1, (0, 0), .null)] (G := True) (c' := (47, [some (.ref 0), some (.int a1), some (.int a2), some (.int a3)], [.int a3, .ref 0], M7)) (by decide +kernel) rfl trivial ?_
          refine WP.call (.invokevirtual 82, 3, (14, 2), .retAddr 6) (by decide +kernel) rfl (sp_unfound (d := d + 1) h (fun r8 M8 h => ?_))
          show WP (Ct (d + 2)) 8 Post (50, [some (.ref 0), some (.int a1), some (.int a2), some (.int a3)], [.int r8], M8)
          exact WP.ret (.ireturn, 1, (0, 0), .null) (rk := 1) (by decide +kernel) (by decide +kernel) rfl trivial (hΦ _ _ h)
        · replace h := h.2 c6
          refine WP.blk [(.aload_n 0, 1, (0, 0), .null), (.iconst 4, 1, (0, 0), .int 4)] (G := True) (c' := (31, [some (.ref 0), some (.int a1), some (.int a2), some (.int a3)], [.int 4, .ref 0], M)) (by decide +kernel) rfl trivial ?_
          refine WP.call (.invokevirtual 74, 3, (11, 2), .retAddr 6) (by decide +kernel) rfl (sp_found (d := d + 1) h (fun r9 M9 h => ?_))
          show WP (Ct (d + 2)) 8 Post (34, [some (.ref 0), some (.int a1), some (.int a2), some (.int a3)], [.int r9], M9)
          exact WP.ret (.ireturn, 1, (0, 0), .null) (rk := 1) (by decide +kernel) (by decide +kernel) rfl trivial (hΦ _ _ h)
      · replace h := h.2 c5
        refine WP.blk [(.ldc 73, 2, (0, 0), .int (-1000001))] (G := True) (c' := (24, [some (.ref 0), some (.int a1), some (.int a2), some (.int a3)], [.int (-1000001)], M)) (by decide +kernel) rfl trivial ?_
        exact WP.ret (.ireturn, 1, (0, 0), .null) (rk := 1) (by decide +kernel) (by decide +kernel) rfl trivial (hΦ _ _ h)
/-- GearRoad.set(III)I -/
def S_set (M : Mm) (a1 : Int32) (a2 : Int32) (a3 : Int32) (Φ : Int32 → Mm → Prop) : Prop := S_Rows_isRow M a1 (fun r1 => ((r1 = 0 → Φ (-1000001) M) ∧ (¬ (r1 = 0) → S_Rows_isMissing M a1 (fun r3 => ((r3 = 0 → S_Rows_reaches M a1 a2 1 (fun r5 => ((r5 = 0 → S_found M 2 (fun r9 M9 => Φ r9 M9)) ∧ (¬ (r5 = 0) → S_Rows_put M a1 a2 a3 (fun r7 M7 => S_unfound M7 r7 (fun r8 M8 => Φ r8 M8)))))) ∧ (¬ (r3 = 0) → S_found M 1 (fun r10 M10 => Φ r10 M10)))))))
set_option maxRecDepth 100000 in
set_option maxHeartbeats 4000000 in
theorem sp_set {d : Nat} {Post : Option Value → Mm → Prop} {M : Mm} {a1 : Int32} {a2 : Int32} {a3 : Int32} {Φ : Int32 → Mm → Prop} (h : S_set M a1 a2 a3 Φ) (hΦ : ∀ r M1, Φ r M1 → Post (some (.int r)) M1) : Ct (d + 3) 15 [.ref 0, .int a1, .int a2, .int a3] M Post := by
  refine Ct.go (n := 4) (E := [some (.ref 0), some (.int a1), some (.int a2), some (.int a3)]) (by decide +kernel) (by simp [Value.category]) rfl ?_
  refine WP.blk [(.iload_n 1, 1, (0, 0), .null)] (G := True) (c' := (1, [some (.ref 0), some (.int a1), some (.int a2), some (.int a3)], [.int a1], M)) (by decide +kernel) rfl trivial ?_
  refine WP.call (.invokestatic 65, 3, (9, 1), .null) (by decide +kernel) rfl (sp_Rows_isRow (d := d + 0) h (fun r1 h => ?_))
  show WP (Ct (d + 2)) 15 Post (4, [some (.ref 0), some (.int a1), some (.int a2), some (.int a3)], [.int r1], M)
  refine WP.br (.ifCond .ne 6, 3, (10, 0), .null) (by decide +kernel) rfl (fun c2 => ?_) (fun c2 => ?_)
  · replace h := h.2 c2
    refine WP.blk [(.aload_n 0, 1, (0, 0), .null), (.getfield 12, 3, (6, 0), .null), (.iload_n 1, 1, (0, 0), .null)] (G := True) (c' := (15, [some (.ref 0), some (.int a1), some (.int a2), some (.int a3)], [.int a1, .ref 1], M)) (by decide +kernel) rfl trivial ?_
    refine WP.call (.invokevirtual 85, 3, (16, 2), .retAddr 3) (by decide +kernel) rfl (sp_Rows_isMissing (d := d + 1) h (fun r3 h => ?_))
    show WP (Ct (d + 2)) 15 Post (18, [some (.ref 0), some (.int a1), some (.int a2), some (.int a3)], [.int r3], M)
    refine WP.br (.ifCond .eq 9, 3, (27, 0), .null) (by decide +kernel) rfl (fun c4 => ?_) (fun c4 => ?_)
    · replace h := h.1 c4
      refine WP.blk [(.aload_n 0, 1, (0, 0), .null), (.getfield 12, 3, (6, 0), .null), (.iload_n 1, 1, (0, 0), .null), (.iload_n 2, 1, (0, 0), .null), (.iconst 1, 1, (0, 0), .int 1)] (G := True) (c' := (34, [some (.ref 0), some (.int a1), some (.int a2), some (.int a3)], [.int 1, .int a2, .int a1, .ref 1], M)) (by decide +kernel) rfl trivial ?_
      refine WP.call (.invokevirtual 88, 3, (17, 4), .retAddr 3) (by decide +kernel) rfl (sp_Rows_reaches (d := d + 1) h (fun r5 h => ?_))
      show WP (Ct (d + 2)) 15 Post (37, [some (.ref 0), some (.int a1), some (.int a2), some (.int a3)], [.int r5], M)
      refine WP.br (.ifCond .ne 9, 3, (46, 0), .null) (by decide +kernel) rfl (fun c6 => ?_) (fun c6 => ?_)
      · replace h := h.2 c6
        refine WP.blk [(.aload_n 0, 1, (0, 0), .null), (.aload_n 0, 1, (0, 0), .null), (.getfield 12, 3, (6, 0), .null), (.iload_n 1, 1, (0, 0), .null), (.iload_n 2, 1, (0, 0), .null), (.iload_n 3, 1, (0, 0), .null)] (G := True) (c' := (54, [some (.ref 0), some (.int a1), some (.int a2), some (.int a3)], [.int a3, .int a2, .int a1, .ref 1, .ref 0], M)) (by decide +kernel) rfl trivial ?_
        refine WP.call (.invokevirtual 91, 3, (18, 4), .retAddr 3) (by decide +kernel) rfl (sp_Rows_put (d := d + 0) h (fun r7 M7 h => ?_))
        show WP (Ct (d + 2)) 15 Post (57, [some (.ref 0), some (.int a1), some (.int a2), some (.int a3)], [.int r7, .ref 0], M7)
        refine WP.call (.invokevirtual 82, 3, (14, 2), .retAddr 6) (by decide +kernel) rfl (sp_unfound (d := d + 1) h (fun r8 M8 h => ?_))
        show WP (Ct (d + 2)) 15 Post (60, [some (.ref 0), some (.int a1), some (.int a2), some (.int a3)], [.int r8], M8)
        exact WP.ret (.ireturn, 1, (0, 0), .null) (rk := 1) (by decide +kernel) (by decide +kernel) rfl trivial (hΦ _ _ h)
      · replace h := h.1 (Classical.not_not.mp c6)
        refine WP.blk [(.aload_n 0, 1, (0, 0), .null), (.iconst 2, 1, (0, 0), .int 2)] (G := True) (c' := (42, [some (.ref 0), some (.int a1), some (.int a2), some (.int a3)], [.int 2, .ref 0], M)) (by decide +kernel) rfl trivial ?_
        refine WP.call (.invokevirtual 74, 3, (11, 2), .retAddr 6) (by decide +kernel) rfl (sp_found (d := d + 1) h (fun r9 M9 h => ?_))
        show WP (Ct (d + 2)) 15 Post (45, [some (.ref 0), some (.int a1), some (.int a2), some (.int a3)], [.int r9], M9)
        exact WP.ret (.ireturn, 1, (0, 0), .null) (rk := 1) (by decide +kernel) (by decide +kernel) rfl trivial (hΦ _ _ h)
    · replace h := h.2 c4
      refine WP.blk [(.aload_n 0, 1, (0, 0), .null), (.iconst 1, 1, (0, 0), .int 1)] (G := True) (c' := (23, [some (.ref 0), some (.int a1), some (.int a2), some (.int a3)], [.int 1, .ref 0], M)) (by decide +kernel) rfl trivial ?_
      refine WP.call (.invokevirtual 74, 3, (11, 2), .retAddr 6) (by decide +kernel) rfl (sp_found (d := d + 1) h (fun r10 M10 h => ?_))
      show WP (Ct (d + 2)) 15 Post (26, [some (.ref 0), some (.int a1), some (.int a2), some (.int a3)], [.int r10], M10)
      exact WP.ret (.ireturn, 1, (0, 0), .null) (rk := 1) (by decide +kernel) (by decide +kernel) rfl trivial (hΦ _ _ h)
  · replace h := h.1 (Classical.not_not.mp c2)
    refine WP.blk [(.ldc 73, 2, (0, 0), .int (-1000001))] (G := True) (c' := (9, [some (.ref 0), some (.int a1), some (.int a2), some (.int a3)], [.int (-1000001)], M)) (by decide +kernel) rfl trivial ?_
    exact WP.ret (.ireturn, 1, (0, 0), .null) (rk := 1) (by decide +kernel) (by decide +kernel) rfl trivial (hΦ _ _ h)
/-- GearRoad.copy(IIIII)I -/
def D_copy_101 (Φ : Int32 → Mm → Prop) : Mm → Prop
  | M => S_found M 2 (fun r1 M1 => Φ r1 M1)
def D_copy_39 (Φ : Int32 → Mm → Prop) : Mm → Prop
  | M => S_found M 1 (fun r1 M1 => Φ r1 M1)
def S_copy (M : Mm) (a1 : Int32) (a2 : Int32) (a3 : Int32) (a4 : Int32) (a5 : Int32) (Φ : Int32 → Mm → Prop) : Prop := S_Rows_isRow M a1 (fun r1 => ((r1 = 0 → Φ (-1000001) M) ∧ (¬ (r1 = 0) → S_Rows_isRow M a3 (fun r3 => ((r3 = 0 → Φ (-1000001) M) ∧ (¬ (r3 = 0) → S_Rows_isMissing M a1 (fun r5 => ((r5 = 0 → S_Rows_isMissing M a3 (fun r7 => ((r7 = 0 → vp_in a1 8 ∧ vp_in a3 8 ∧ (((M 2 (Int32.toNatClampNeg a1)) = (M 2 (Int32.toNatClampNeg a3)) → S_Rows_reaches M a1 a2 a5 (fun r10 => ((r10 = 0 → D_copy_101 Φ M) ∧ (¬ (r10 = 0) → S_Rows_reaches M a3 a4 a5 (fun r12 => ((r12 = 0 → D_copy_101 Φ M) ∧ (¬ (r12 = 0) → S_Rows_move M a1 a2 a3 a4 a5 (fun M14 => S_unfound M14 a5 (fun r15 M15 => Φ r15 M15))))))))) ∧ (¬ ((M 2 (Int32.toNatClampNeg a1)) = (M 2 (Int32.toNatClampNeg a3))) → S_found M 5 (fun r16 M16 => Φ r16 M16)))) ∧ (¬ (r7 = 0) → D_copy_39 Φ M)))) ∧ (¬ (r5 = 0) → D_copy_39 Φ M)))))))))
set_option maxRecDepth 100000 in
set_option maxHeartbeats 4000000 in
theorem L_copy_101 {d : Nat} {Post : Option Value → Mm → Prop} {Φ : Int32 → Mm → Prop} (hΦ : ∀ r M1, Φ r M1 → Post (some (.int r)) M1) : ∀ (M : Mm), D_copy_101 Φ M → WP (Ct (d + 2)) 19 Post (101, [some (.ref 0), none, none, none, none, none], [], M) := by
  intro M h
  replace h : S_found M 2 (fun r1 M1 => Φ r1 M1) := h
  refine WP.blk [(.aload_n 0, 1, (0, 0), .null), (.iconst 2, 1, (0, 0), .int 2)] (G := True) (c' := (103, [some (.ref 0), none, none, none, none, none], [.int 2, .ref 0], M)) (by decide +kernel) rfl trivial ?_
  refine WP.call (.invokevirtual 74, 3, (11, 2), .retAddr 6) (by decide +kernel) rfl (sp_found (d := d + 1) h (fun r1 M1 h => ?_))
  show WP (Ct (d + 2)) 19 Post (106, [some (.ref 0), none, none, none, none, none], [.int r1], M1)
  exact WP.ret (.ireturn, 1, (0, 0), .null) (rk := 1) (by decide +kernel) (by decide +kernel) rfl trivial (hΦ _ _ h)
set_option maxRecDepth 100000 in
set_option maxHeartbeats 4000000 in
theorem L_copy_39 {d : Nat} {Post : Option Value → Mm → Prop} {Φ : Int32 → Mm → Prop} (hΦ : ∀ r M1, Φ r M1 → Post (some (.int r)) M1) : ∀ (M : Mm), D_copy_39 Φ M → WP (Ct (d + 2)) 19 Post (39, [some (.ref 0), none, none, none, none, none], [], M) := by
  intro M h
  replace h : S_found M 1 (fun r1 M1 => Φ r1 M1) := h
  refine WP.blk [(.aload_n 0, 1, (0, 0), .null), (.iconst 1, 1, (0, 0), .int 1)] (G := True) (c' := (41, [some (.ref 0), none, none, none, none, none], [.int 1, .ref 0], M)) (by decide +kernel) rfl trivial ?_
  refine WP.call (.invokevirtual 74, 3, (11, 2), .retAddr 6) (by decide +kernel) rfl (sp_found (d := d + 1) h (fun r1 M1 h => ?_))
  show WP (Ct (d + 2)) 19 Post (44, [some (.ref 0), none, none, none, none, none], [.int r1], M1)
  exact WP.ret (.ireturn, 1, (0, 0), .null) (rk := 1) (by decide +kernel) (by decide +kernel) rfl trivial (hΦ _ _ h)
set_option maxRecDepth 100000 in
set_option maxHeartbeats 4000000 in
theorem sp_copy {d : Nat} {Post : Option Value → Mm → Prop} {M : Mm} {a1 : Int32} {a2 : Int32} {a3 : Int32} {a4 : Int32} {a5 : Int32} {Φ : Int32 → Mm → Prop} (h : S_copy M a1 a2 a3 a4 a5 Φ) (hΦ : ∀ r M1, Φ r M1 → Post (some (.int r)) M1) : Ct (d + 3) 19 [.ref 0, .int a1, .int a2, .int a3, .int a4, .int a5] M Post := by
  refine Ct.go (n := 6) (E := [some (.ref 0), some (.int a1), some (.int a2), some (.int a3), some (.int a4), some (.int a5)]) (by decide +kernel) (by simp [Value.category]) rfl ?_
  refine WP.blk [(.iload_n 1, 1, (0, 0), .null)] (G := True) (c' := (1, [some (.ref 0), some (.int a1), some (.int a2), some (.int a3), some (.int a4), some (.int a5)], [.int a1], M)) (by decide +kernel) rfl trivial ?_
  refine WP.call (.invokestatic 65, 3, (9, 1), .null) (by decide +kernel) rfl (sp_Rows_isRow (d := d + 0) h (fun r1 h => ?_))
  show WP (Ct (d + 2)) 19 Post (4, [some (.ref 0), some (.int a1), some (.int a2), some (.int a3), some (.int a4), some (.int a5)], [.int r1], M)
  refine WP.br (.ifCond .eq 10, 3, (14, 0), .null) (by decide +kernel) rfl (fun c2 => ?_) (fun c2 => ?_)
  · replace h := h.1 c2
    refine WP.blk [(.ldc 73, 2, (0, 0), .int (-1000001))] (G := True) (c' := (16, [some (.ref 0), some (.int a1), some (.int a2), some (.int a3), some (.int a4), some (.int a5)], [.int (-1000001)], M)) (by decide +kernel) rfl trivial ?_
    exact WP.ret (.ireturn, 1, (0, 0), .null) (rk := 1) (by decide +kernel) (by decide +kernel) rfl trivial (hΦ _ _ h)
  · replace h := h.2 c2
    refine WP.blk [(.iload_n 3, 1, (0, 0), .null)] (G := True) (c' := (8, [some (.ref 0), some (.int a1), some (.int a2), some (.int a3), some (.int a4), some (.int a5)], [.int a3], M)) (by decide +kernel) rfl trivial ?_
    refine WP.call (.invokestatic 65, 3, (9, 1), .null) (by decide +kernel) rfl (sp_Rows_isRow (d := d + 0) h (fun r3 h => ?_))
    show WP (Ct (d + 2)) 19 Post (11, [some (.ref 0), some (.int a1), some (.int a2), some (.int a3), some (.int a4), some (.int a5)], [.int r3], M)
    refine WP.br (.ifCond .ne 6, 3, (17, 0), .null) (by decide +kernel) rfl (fun c4 => ?_) (fun c4 => ?_)
    · replace h := h.2 c4
      refine WP.blk [(.aload_n 0, 1, (0, 0), .null), (.getfield 12, 3, (6, 0), .null), (.iload_n 1, 1, (0, 0), .null)] (G := True) (c' := (22, [some (.ref 0), some (.int a1), some (.int a2), some (.int a3), some (.int a4), some (.int a5)], [.int a1, .ref 1], M)) (by decide +kernel) rfl trivial ?_
      refine WP.call (.invokevirtual 85, 3, (16, 2), .retAddr 3) (by decide +kernel) rfl (sp_Rows_isMissing (d := d + 1) h (fun r5 h => ?_))
      show WP (Ct (d + 2)) 19 Post (25, [some (.ref 0), some (.int a1), some (.int a2), some (.int a3), some (.int a4), some (.int a5)], [.int r5], M)
      refine WP.br (.ifCond .ne 14, 3, (39, 0), .null) (by decide +kernel) rfl (fun c6 => ?_) (fun c6 => ?_)
      · replace h := h.2 c6
        refine WP.fgt [some (.ref 0), none, none, none, none, none] (by simp [fgt]) ?_
        exact L_copy_39 hΦ _ h
      · replace h := h.1 (Classical.not_not.mp c6)
        refine WP.blk [(.aload_n 0, 1, (0, 0), .null), (.getfield 12, 3, (6, 0), .null), (.iload_n 3, 1, (0, 0), .null)] (G := True) (c' := (33, [some (.ref 0), some (.int a1), some (.int a2), some (.int a3), some (.int a4), some (.int a5)], [.int a3, .ref 1], M)) (by decide +kernel) rfl trivial ?_
        refine WP.call (.invokevirtual 85, 3, (16, 2), .retAddr 3) (by decide +kernel) rfl (sp_Rows_isMissing (d := d + 1) h (fun r7 h => ?_))
        show WP (Ct (d + 2)) 19 Post (36, [some (.ref 0), some (.int a1), some (.int a2), some (.int a3), some (.int a4), some (.int a5)], [.int r7], M)
        refine WP.br (.ifCond .eq 9, 3, (45, 0), .null) (by decide +kernel) rfl (fun c8 => ?_) (fun c8 => ?_)
        · replace h := h.1 c8
          refine WP.blk [(.aload_n 0, 1, (0, 0), .null), (.getfield 12, 3, (6, 0), .null), (.getfield 95, 3, (3, 0), .null), (.iload_n 1, 1, (0, 0), .null), (.iaload, 1, (0, 0), .null), (.aload_n 0, 1, (0, 0), .null), (.getfield 12, 3, (6, 0), .null), (.getfield 95, 3, (3, 0), .null), (.iload_n 3, 1, (0, 0), .null), (.iaload, 1, (0, 0), .null)] (G := vp_in a1 8 ∧ vp_in a3 8 ∧ True) (c' := (63, [some (.ref 0), some (.int a1), some (.int a2), some (.int a3), some (.int a4), some (.int a5)], [.int (M 2 (Int32.toNatClampNeg a3)), .int (M 2 (Int32.toNatClampNeg a1))], M)) (by decide +kernel) rfl ⟨h.1, h.2.1, trivial⟩ ?_
          replace h := h.2.2
          refine WP.br (.if_icmp .eq 9, 3, (72, 0), .null) (by decide +kernel) rfl (fun c9 => ?_) (fun c9 => ?_)
          · replace h := h.1 c9
            refine WP.blk [(.aload_n 0, 1, (0, 0), .null), (.getfield 12, 3, (6, 0), .null), (.iload_n 1, 1, (0, 0), .null), (.iload_n 2, 1, (0, 0), .null), (.iload 5, 2, (0, 0), .null)] (G := True) (c' := (80, [some (.ref 0), some (.int a1), some (.int a2), some (.int a3), some (.int a4), some (.int a5)], [.int a5, .int a2, .int a1, .ref 1], M)) (by decide +kernel) rfl trivial ?_
            refine WP.call (.invokevirtual 88, 3, (17, 4), .retAddr 3) (by decide +kernel) rfl (sp_Rows_reaches (d := d + 1) h (fun r10 h => ?_))
            show WP (Ct (d + 2)) 19 Post (83, [some (.ref 0), some (.int a1), some (.int a2), some (.int a3), some (.int a4), some (.int a5)], [.int r10], M)
            refine WP.br (.ifCond .eq 18, 3, (101, 0), .null) (by decide +kernel) rfl (fun c11 => ?_) (fun c11 => ?_)
            · replace h := h.1 c11
              refine WP.fgt [some (.ref 0), none, none, none, none, none] (by simp [fgt]) ?_
              exact L_copy_101 hΦ _ h
            · replace h := h.2 c11
              refine WP.blk [(.aload_n 0, 1, (0, 0), .null), (.getfield 12, 3, (6, 0), .null), (.iload_n 3, 1, (0, 0), .null), (.iload 4, 2, (0, 0), .null), (.iload 5, 2, (0, 0), .null)] (G := True) (c' := (95, [some (.ref 0), some (.int a1), some (.int a2), some (.int a3), some (.int a4), some (.int a5)], [.int a5, .int a4, .int a3, .ref 1], M)) (by decide +kernel) rfl trivial ?_
              refine WP.call (.invokevirtual 88, 3, (17, 4), .retAddr 3) (by decide +kernel) rfl (sp_Rows_reaches (d := d + 1) h (fun r12 h => ?_))
              show WP (Ct (d + 2)) 19 Post (98, [some (.ref 0), some (.int a1), some (.int a2), some (.int a3), some (.int a4), some (.int a5)], [.int r12], M)
              refine WP.br (.ifCond .ne 9, 3, (107, 0), .null) (by decide +kernel) rfl (fun c13 => ?_) (fun c13 => ?_)
              · replace h := h.2 c13
                refine WP.blk [(.aload_n 0, 1, (0, 0), .null), (.getfield 12, 3, (6, 0), .null), (.iload_n 1, 1, (0, 0), .null), (.iload_n 2, 1, (0, 0), .null), (.iload_n 3, 1, (0, 0), .null), (.iload 4, 2, (0, 0), .null), (.iload 5, 2, (0, 0), .null)] (G := True) (c' := (118, [some (.ref 0), some (.int a1), some (.int a2), some (.int a3), some (.int a4), some (.int a5)], [.int a5, .int a4, .int a3, .int a2, .int a1, .ref 1], M)) (by decide +kernel) rfl trivial ?_
                refine WP.call (.invokevirtual 99, 3, (20, 6), .retAddr 3) (by decide +kernel) rfl (sp_Rows_move (d := d + 0) h (fun M14 h => ?_))
                show WP (Ct (d + 2)) 19 Post (121, [some (.ref 0), some (.int a1), some (.int a2), some (.int a3), some (.int a4), some (.int a5)], [], M14)
                refine WP.blk [(.aload_n 0, 1, (0, 0), .null), (.iload 5, 2, (0, 0), .null)] (G := True) (c' := (124, [some (.ref 0), some (.int a1), some (.int a2), some (.int a3), some (.int a4), some (.int a5)], [.int a5, .ref 0], M14)) (by decide +kernel) rfl trivial ?_
                refine WP.call (.invokevirtual 82, 3, (14, 2), .retAddr 6) (by decide +kernel) rfl (sp_unfound (d := d + 1) h (fun r15 M15 h => ?_))
                show WP (Ct (d + 2)) 19 Post (127, [some (.ref 0), some (.int a1), some (.int a2), some (.int a3), some (.int a4), some (.int a5)], [.int r15], M15)
                exact WP.ret (.ireturn, 1, (0, 0), .null) (rk := 1) (by decide +kernel) (by decide +kernel) rfl trivial (hΦ _ _ h)
              · replace h := h.1 (Classical.not_not.mp c13)
                refine WP.fgt [some (.ref 0), none, none, none, none, none] (by simp [fgt]) ?_
                exact L_copy_101 hΦ _ h
          · replace h := h.2 c9
            refine WP.blk [(.aload_n 0, 1, (0, 0), .null), (.iconst 5, 1, (0, 0), .int 5)] (G := True) (c' := (68, [some (.ref 0), some (.int a1), some (.int a2), some (.int a3), some (.int a4), some (.int a5)], [.int 5, .ref 0], M)) (by decide +kernel) rfl trivial ?_
            refine WP.call (.invokevirtual 74, 3, (11, 2), .retAddr 6) (by decide +kernel) rfl (sp_found (d := d + 1) h (fun r16 M16 h => ?_))
            show WP (Ct (d + 2)) 19 Post (71, [some (.ref 0), some (.int a1), some (.int a2), some (.int a3), some (.int a4), some (.int a5)], [.int r16], M16)
            exact WP.ret (.ireturn, 1, (0, 0), .null) (rk := 1) (by decide +kernel) (by decide +kernel) rfl trivial (hΦ _ _ h)
        · replace h := h.2 c8
          refine WP.fgt [some (.ref 0), none, none, none, none, none] (by simp [fgt]) ?_
          exact L_copy_39 hΦ _ h
    · replace h := h.1 (Classical.not_not.mp c4)
      refine WP.blk [(.ldc 73, 2, (0, 0), .int (-1000001))] (G := True) (c' := (16, [some (.ref 0), some (.int a1), some (.int a2), some (.int a3), some (.int a4), some (.int a5)], [.int (-1000001)], M)) (by decide +kernel) rfl trivial ?_
      exact WP.ret (.ireturn, 1, (0, 0), .null) (rk := 1) (by decide +kernel) (by decide +kernel) rfl trivial (hΦ _ _ h)
/-- GearRoad.drop(I)I -/
def S_drop (M : Mm) (a1 : Int32) (Φ : Int32 → Mm → Prop) : Prop := S_Rows_isRow M a1 (fun r1 => ((r1 = 0 → Φ (-1000001) M) ∧ (¬ (r1 = 0) → S_Rows_isMissing M a1 (fun r3 => ((r3 = 0 → S_Rows_remove M a1 (fun r5 M5 => S_unfound M5 r5 (fun r6 M6 => Φ r6 M6))) ∧ (¬ (r3 = 0) → S_found M 1 (fun r7 M7 => Φ r7 M7)))))))
set_option maxRecDepth 100000 in
set_option maxHeartbeats 4000000 in
theorem sp_drop {d : Nat} {Post : Option Value → Mm → Prop} {M : Mm} {a1 : Int32} {Φ : Int32 → Mm → Prop} (h : S_drop M a1 Φ) (hΦ : ∀ r M1, Φ r M1 → Post (some (.int r)) M1) : Ct (d + 3) 21 [.ref 0, .int a1] M Post := by
  refine Ct.go (n := 2) (E := [some (.ref 0), some (.int a1)]) (by decide +kernel) (by simp [Value.category]) rfl ?_
  refine WP.blk [(.iload_n 1, 1, (0, 0), .null)] (G := True) (c' := (1, [some (.ref 0), some (.int a1)], [.int a1], M)) (by decide +kernel) rfl trivial ?_
  refine WP.call (.invokestatic 65, 3, (9, 1), .null) (by decide +kernel) rfl (sp_Rows_isRow (d := d + 0) h (fun r1 h => ?_))
  show WP (Ct (d + 2)) 21 Post (4, [some (.ref 0), some (.int a1)], [.int r1], M)
  refine WP.br (.ifCond .ne 6, 3, (10, 0), .null) (by decide +kernel) rfl (fun c2 => ?_) (fun c2 => ?_)
  · replace h := h.2 c2
    refine WP.blk [(.aload_n 0, 1, (0, 0), .null), (.getfield 12, 3, (6, 0), .null), (.iload_n 1, 1, (0, 0), .null)] (G := True) (c' := (15, [some (.ref 0), some (.int a1)], [.int a1, .ref 1], M)) (by decide +kernel) rfl trivial ?_
    refine WP.call (.invokevirtual 85, 3, (16, 2), .retAddr 3) (by decide +kernel) rfl (sp_Rows_isMissing (d := d + 1) h (fun r3 h => ?_))
    show WP (Ct (d + 2)) 21 Post (18, [some (.ref 0), some (.int a1)], [.int r3], M)
    refine WP.br (.ifCond .eq 9, 3, (27, 0), .null) (by decide +kernel) rfl (fun c4 => ?_) (fun c4 => ?_)
    · replace h := h.1 c4
      refine WP.blk [(.aload_n 0, 1, (0, 0), .null), (.aload_n 0, 1, (0, 0), .null), (.getfield 12, 3, (6, 0), .null), (.iload_n 1, 1, (0, 0), .null)] (G := True) (c' := (33, [some (.ref 0), some (.int a1)], [.int a1, .ref 1, .ref 0], M)) (by decide +kernel) rfl trivial ?_
      refine WP.call (.invokevirtual 103, 3, (22, 2), .retAddr 3) (by decide +kernel) rfl (sp_Rows_remove (d := d + 1) h (fun r5 M5 h => ?_))
      show WP (Ct (d + 2)) 21 Post (36, [some (.ref 0), some (.int a1)], [.int r5, .ref 0], M5)
      refine WP.call (.invokevirtual 82, 3, (14, 2), .retAddr 6) (by decide +kernel) rfl (sp_unfound (d := d + 1) h (fun r6 M6 h => ?_))
      show WP (Ct (d + 2)) 21 Post (39, [some (.ref 0), some (.int a1)], [.int r6], M6)
      exact WP.ret (.ireturn, 1, (0, 0), .null) (rk := 1) (by decide +kernel) (by decide +kernel) rfl trivial (hΦ _ _ h)
    · replace h := h.2 c4
      refine WP.blk [(.aload_n 0, 1, (0, 0), .null), (.iconst 1, 1, (0, 0), .int 1)] (G := True) (c' := (23, [some (.ref 0), some (.int a1)], [.int 1, .ref 0], M)) (by decide +kernel) rfl trivial ?_
      refine WP.call (.invokevirtual 74, 3, (11, 2), .retAddr 6) (by decide +kernel) rfl (sp_found (d := d + 1) h (fun r7 M7 h => ?_))
      show WP (Ct (d + 2)) 21 Post (26, [some (.ref 0), some (.int a1)], [.int r7], M7)
      exact WP.ret (.ireturn, 1, (0, 0), .null) (rk := 1) (by decide +kernel) (by decide +kernel) rfl trivial (hΦ _ _ h)
  · replace h := h.1 (Classical.not_not.mp c2)
    refine WP.blk [(.ldc 73, 2, (0, 0), .int (-1000001))] (G := True) (c' := (9, [some (.ref 0), some (.int a1)], [.int (-1000001)], M)) (by decide +kernel) rfl trivial ?_
    exact WP.ret (.ireturn, 1, (0, 0), .null) (rk := 1) (by decide +kernel) (by decide +kernel) rfl trivial (hΦ _ _ h)
/-- GearRoad.feed(I)I -/
def S_feed (M : Mm) (a1 : Int32) (Φ : Int32 → Mm → Prop) : Prop := S_within M a1 0 255 (fun r1 => ((r1 = 0 → Φ (-1000001) M) ∧ (¬ (r1 = 0) → (((M 5 1) < 80 → S_Tape_add M a1 (fun M4 => Φ (M4 5 1) M4)) ∧ (¬ ((M 5 1) < 80) → Φ (-1000003) M)))))
set_option maxRecDepth 100000 in
set_option maxHeartbeats 4000000 in
theorem sp_feed {d : Nat} {Post : Option Value → Mm → Prop} {M : Mm} {a1 : Int32} {Φ : Int32 → Mm → Prop} (h : S_feed M a1 Φ) (hΦ : ∀ r M1, Φ r M1 → Post (some (.int r)) M1) : Ct (d + 2) 23 [.ref 0, .int a1] M Post := by
  refine Ct.go (n := 2) (E := [some (.ref 0), some (.int a1)]) (by decide +kernel) (by simp [Value.category]) rfl ?_
  refine WP.blk [(.iload_n 1, 1, (0, 0), .null), (.iconst 0, 1, (0, 0), .int 0), (.sipush 255, 3, (0, 0), .int 255)] (G := True) (c' := (5, [some (.ref 0), some (.int a1)], [.int 255, .int 0, .int a1], M)) (by decide +kernel) rfl trivial ?_
  refine WP.call (.invokestatic 69, 3, (10, 3), .null) (by decide +kernel) rfl (sp_within (d := d + 0) h (fun r1 h => ?_))
  show WP (Ct (d + 1)) 23 Post (8, [some (.ref 0), some (.int a1)], [.int r1], M)
  refine WP.br (.ifCond .ne 6, 3, (14, 0), .null) (by decide +kernel) rfl (fun c2 => ?_) (fun c2 => ?_)
  · replace h := h.2 c2
    refine WP.blk [(.aload_n 0, 1, (0, 0), .null), (.getfield 19, 3, (6, 1), .null), (.getfield 106, 3, (4, 1), .null), (.bipush 80, 2, (0, 0), .int 80)] (G := True) (c' := (23, [some (.ref 0), some (.int a1)], [.int 80, .int (M 5 1)], M)) (by decide +kernel) rfl trivial ?_
    refine WP.br (.if_icmp .lt 6, 3, (29, 0), .null) (by decide +kernel) rfl (fun c3 => ?_) (fun c3 => ?_)
    · replace h := h.1 c3
      refine WP.blk [(.aload_n 0, 1, (0, 0), .null), (.getfield 19, 3, (6, 1), .null), (.iload_n 1, 1, (0, 0), .null)] (G := True) (c' := (34, [some (.ref 0), some (.int a1)], [.int a1, .ref 5], M)) (by decide +kernel) rfl trivial ?_
      refine WP.call (.invokevirtual 110, 3, (24, 2), .retAddr 4) (by decide +kernel) rfl (sp_Tape_add (d := d + 0) h (fun M4 h => ?_))
      show WP (Ct (d + 1)) 23 Post (37, [some (.ref 0), some (.int a1)], [], M4)
      refine WP.blk [(.aload_n 0, 1, (0, 0), .null), (.getfield 19, 3, (6, 1), .null), (.getfield 106, 3, (4, 1), .null)] (G := True) (c' := (44, [some (.ref 0), some (.int a1)], [.int (M4 5 1)], M4)) (by decide +kernel) rfl trivial ?_
      exact WP.ret (.ireturn, 1, (0, 0), .null) (rk := 1) (by decide +kernel) (by decide +kernel) rfl trivial (hΦ _ _ h)
    · replace h := h.2 c3
      refine WP.blk [(.ldc 109, 2, (0, 0), .int (-1000003))] (G := True) (c' := (28, [some (.ref 0), some (.int a1)], [.int (-1000003)], M)) (by decide +kernel) rfl trivial ?_
      exact WP.ret (.ireturn, 1, (0, 0), .null) (rk := 1) (by decide +kernel) (by decide +kernel) rfl trivial (hΦ _ _ h)
  · replace h := h.1 (Classical.not_not.mp c2)
    refine WP.blk [(.ldc 73, 2, (0, 0), .int (-1000001))] (G := True) (c' := (13, [some (.ref 0), some (.int a1)], [.int (-1000001)], M)) (by decide +kernel) rfl trivial ?_
    exact WP.ret (.ireturn, 1, (0, 0), .null) (rk := 1) (by decide +kernel) (by decide +kernel) rfl trivial (hΦ _ _ h)
/-- GearRoad.bike()I -/
def S_bike (M : Mm) (Φ : Int32 → Mm → Prop) : Prop := S_Tape_read M (fun M1 => (∀ M2, M2 = mu M1 5 1 0 → (((M2 5 3) = 0 → S_Bike_takeFrom 7 13 M2 (fun M4 => S_Acts_forget M4 (fun M5 => Φ (M5 7 2) M5))) ∧ (¬ ((M2 5 3) = 0) → (∀ M6, M6 = mu M2 0 9 (M2 5 3) → Φ ((-1000100) - (M6 5 4)) M6)))))
set_option maxRecDepth 100000 in
set_option maxHeartbeats 4000000 in
theorem sp_bike {d : Nat} {Post : Option Value → Mm → Prop} {M : Mm} {Φ : Int32 → Mm → Prop} (h : S_bike M Φ) (hΦ : ∀ r M1, Φ r M1 → Post (some (.int r)) M1) : Ct (d + 8) 25 [.ref 0] M Post := by
  refine Ct.go (n := 1) (E := [some (.ref 0)]) (by decide +kernel) (by simp [Value.category]) rfl ?_
  refine WP.blk [(.aload_n 0, 1, (0, 0), .null), (.getfield 19, 3, (6, 1), .null), (.aload_n 0, 1, (0, 0), .null), (.getfield 30, 3, (6, 3), .null)] (G := True) (c' := (8, [some (.ref 0)], [.ref 13, .ref 5], M)) (by decide +kernel) rfl trivial ?_
  refine WP.call (.invokevirtual 114, 3, (26, 2), .retAddr 4) (by decide +kernel) rfl (sp_Tape_read (d := d + 0) h (fun M1 h => ?_))
  show WP (Ct (d + 7)) 25 Post (11, [some (.ref 0)], [], M1)
  refine WP.blk [(.aload_n 0, 1, (0, 0), .null), (.getfield 19, 3, (6, 1), .null), (.iconst 0, 1, (0, 0), .int 0), (.putfield 106, 3, (4, 1), .null)] (G := True) (c' := (19, [some (.ref 0)], [], (mu M1 5 1 0))) (by decide +kernel) rfl trivial ?_
  replace h := h (mu M1 5 1 0) rfl
  generalize (mu M1 5 1 0) = M2 at h ⊢
  refine WP.blk [(.aload_n 0, 1, (0, 0), .null), (.getfield 19, 3, (6, 1), .null), (.getfield 118, 3, (4, 3), .null)] (G := True) (c' := (26, [some (.ref 0)], [.int (M2 5 3)], M2)) (by decide +kernel) rfl trivial ?_
  refine WP.br (.ifCond .eq 25, 3, (51, 0), .null) (by decide +kernel) rfl (fun c3 => ?_) (fun c3 => ?_)
  · replace h := h.1 c3
    refine WP.blk [(.aload_n 0, 1, (0, 0), .null), (.getfield 26, 3, (6, 2), .null), (.aload_n 0, 1, (0, 0), .null), (.getfield 30, 3, (6, 3), .null)] (G := True) (c' := (59, [some (.ref 0)], [.ref 13, .ref 7], M2)) (by decide +kernel) rfl trivial ?_
    refine WP.call (.invokevirtual 125, 3, (40, 2), .retAddr 1) (by decide +kernel) rfl (sp_Bike_takeFrom (d := d + 6) (by decide) h (fun M4 h => ?_))
    show WP (Ct (d + 7)) 25 Post (62, [some (.ref 0)], [], M4)
    refine WP.blk [(.aload_n 0, 1, (0, 0), .null), (.getfield 40, 3, (6, 5), .null)] (G := True) (c' := (66, [some (.ref 0)], [.ref 32], M4)) (by decide +kernel) rfl trivial ?_
    refine WP.call (.invokevirtual 128, 3, (41, 1), .retAddr 0) (by decide +kernel) rfl (sp_Acts_forget (d := d + 6) h (fun M5 h => ?_))
    show WP (Ct (d + 7)) 25 Post (69, [some (.ref 0)], [], M5)
    refine WP.blk [(.aload_n 0, 1, (0, 0), .null), (.getfield 26, 3, (6, 2), .null), (.getfield 131, 3, (1, 2), .null)] (G := True) (c' := (76, [some (.ref 0)], [.int (M5 7 2)], M5)) (by decide +kernel) rfl trivial ?_
    exact WP.ret (.ireturn, 1, (0, 0), .null) (rk := 1) (by decide +kernel) (by decide +kernel) rfl trivial (hΦ _ _ h)
  · replace h := h.2 c3
    refine WP.blk [(.aload_n 0, 1, (0, 0), .null), (.aload_n 0, 1, (0, 0), .null), (.getfield 19, 3, (6, 1), .null), (.getfield 118, 3, (4, 3), .null), (.putfield 62, 3, (6, 9), .null)] (G := True) (c' := (40, [some (.ref 0)], [], (mu M2 0 9 (M2 5 3)))) (by decide +kernel) rfl trivial ?_
    replace h := h (mu M2 0 9 (M2 5 3)) rfl
    generalize (mu M2 0 9 (M2 5 3)) = M6 at h ⊢
    refine WP.blk [(.ldc 121, 2, (0, 0), .int (-1000100)), (.aload_n 0, 1, (0, 0), .null), (.getfield 19, 3, (6, 1), .null), (.getfield 122, 3, (4, 4), .null), (.isub, 1, (0, 0), .null)] (G := True) (c' := (50, [some (.ref 0)], [.int ((-1000100) - (M6 5 4))], M6)) (by decide +kernel) rfl trivial ?_
    exact WP.ret (.ireturn, 1, (0, 0), .null) (rk := 1) (by decide +kernel) (by decide +kernel) rfl trivial (hΦ _ _ h)
/-- GearRoad.fault()I -/
def S_fault (M : Mm) (Φ : Int32 → Prop) : Prop := Φ (M 0 9)
set_option maxRecDepth 100000 in
set_option maxHeartbeats 4000000 in
theorem sp_fault {d : Nat} {Post : Option Value → Mm → Prop} {M : Mm} {Φ : Int32 → Prop} (h : S_fault M Φ) (hΦ : ∀ r, Φ r → Post (some (.int r)) M) : Ct (d + 1) 42 [.ref 0] M Post := by
  refine Ct.go (n := 1) (E := [some (.ref 0)]) (by decide +kernel) (by simp [Value.category]) rfl ?_
  refine WP.blk [(.aload_n 0, 1, (0, 0), .null), (.getfield 62, 3, (6, 9), .null)] (G := True) (c' := (4, [some (.ref 0)], [.int (M 0 9)], M)) (by decide +kernel) rfl trivial ?_
  exact WP.ret (.ireturn, 1, (0, 0), .null) (rk := 1) (by decide +kernel) (by decide +kernel) rfl trivial (hΦ _ h)
/-- GearRoad.ride()I -/
def S_ride (M : Mm) (Φ : Int32 → Mm → Prop) : Prop := (((M 7 0) = 0 → Φ (-1000002) M) ∧ (¬ ((M 7 0) = 0) → S_Bike_canRide 7 M (fun r2 => ((r2 = 0 → Φ (-1000002) M) ∧ (¬ (r2 = 0) → S_Acts_keep M (fun M4 => S_Bike_rideOn 7 M4 (fun r5 M5 => Φ r5 M5)))))))
set_option maxRecDepth 100000 in
set_option maxHeartbeats 4000000 in
theorem sp_ride {d : Nat} {Post : Option Value → Mm → Prop} {M : Mm} {Φ : Int32 → Mm → Prop} (h : S_ride M Φ) (hΦ : ∀ r M1, Φ r M1 → Post (some (.int r)) M1) : Ct (d + 7) 43 [.ref 0] M Post := by
  refine Ct.go (n := 1) (E := [some (.ref 0)]) (by decide +kernel) (by simp [Value.category]) rfl ?_
  refine WP.blk [(.aload_n 0, 1, (0, 0), .null), (.getfield 26, 3, (6, 2), .null), (.getfield 134, 3, (1, 0), .null)] (G := True) (c' := (7, [some (.ref 0)], [.int (M 7 0)], M)) (by decide +kernel) rfl trivial ?_
  refine WP.br (.ifCond .eq 13, 3, (20, 0), .null) (by decide +kernel) rfl (fun c1 => ?_) (fun c1 => ?_)
  · replace h := h.1 c1
    refine WP.blk [(.ldc 142, 2, (0, 0), .int (-1000002))] (G := True) (c' := (22, [some (.ref 0)], [.int (-1000002)], M)) (by decide +kernel) rfl trivial ?_
    exact WP.ret (.ireturn, 1, (0, 0), .null) (rk := 1) (by decide +kernel) (by decide +kernel) rfl trivial (hΦ _ _ h)
  · replace h := h.2 c1
    refine WP.blk [(.aload_n 0, 1, (0, 0), .null), (.getfield 26, 3, (6, 2), .null)] (G := True) (c' := (14, [some (.ref 0)], [.ref 7], M)) (by decide +kernel) rfl trivial ?_
    refine WP.call (.invokevirtual 138, 3, (44, 1), .retAddr 1) (by decide +kernel) rfl (sp_Bike_canRide (d := d + 0) (by decide) h (fun r2 h => ?_))
    show WP (Ct (d + 6)) 43 Post (17, [some (.ref 0)], [.int r2], M)
    refine WP.br (.ifCond .ne 6, 3, (23, 0), .null) (by decide +kernel) rfl (fun c3 => ?_) (fun c3 => ?_)
    · replace h := h.2 c3
      refine WP.blk [(.aload_n 0, 1, (0, 0), .null), (.getfield 40, 3, (6, 5), .null), (.aload_n 0, 1, (0, 0), .null), (.getfield 26, 3, (6, 2), .null)] (G := True) (c' := (31, [some (.ref 0)], [.ref 7, .ref 32], M)) (by decide +kernel) rfl trivial ?_
      refine WP.call (.invokevirtual 143, 3, (53, 2), .retAddr 0) (by decide +kernel) rfl (sp_Acts_keep (d := d + 4) h (fun M4 h => ?_))
      show WP (Ct (d + 6)) 43 Post (34, [some (.ref 0)], [], M4)
      refine WP.blk [(.aload_n 0, 1, (0, 0), .null), (.getfield 26, 3, (6, 2), .null)] (G := True) (c' := (38, [some (.ref 0)], [.ref 7], M4)) (by decide +kernel) rfl trivial ?_
      refine WP.call (.invokevirtual 146, 3, (55, 1), .retAddr 1) (by decide +kernel) rfl (sp_Bike_rideOn (d := d + 1) (by decide) h (fun r5 M5 h => ?_))
      show WP (Ct (d + 6)) 43 Post (41, [some (.ref 0)], [.int r5], M5)
      exact WP.ret (.ireturn, 1, (0, 0), .null) (rk := 1) (by decide +kernel) (by decide +kernel) rfl trivial (hΦ _ _ h)
    · replace h := h.1 (Classical.not_not.mp c3)
      refine WP.blk [(.ldc 142, 2, (0, 0), .int (-1000002))] (G := True) (c' := (22, [some (.ref 0)], [.int (-1000002)], M)) (by decide +kernel) rfl trivial ?_
      exact WP.ret (.ireturn, 1, (0, 0), .null) (rk := 1) (by decide +kernel) (by decide +kernel) rfl trivial (hΦ _ _ h)
/-- GearRoad.shift(I)I -/
def D_shift_26 (Φ : Int32 → Mm → Prop) : Int32 × Mm → Prop
  | (x1, M) => S_Bike_canShift 7 M x1 (fun r2 => ((r2 = 0 → Φ (-1000002) M) ∧ (¬ (r2 = 0) → S_Acts_keep M (fun M4 => S_Bike_shiftCog 7 M4 x1 (fun M5 => Φ (M5 7 6) M5)))))
def S_shift (M : Mm) (a1 : Int32) (Φ : Int32 → Mm → Prop) : Prop := (((M 7 0) = 0 → Φ (-1000002) M) ∧ (¬ ((M 7 0) = 0) → ((a1 = 1 → D_shift_26 Φ (a1, M)) ∧ (¬ (a1 = 1) → ((a1 = (-1) → D_shift_26 Φ (a1, M)) ∧ (¬ (a1 = (-1)) → Φ (-1000001) M))))))
set_option maxRecDepth 100000 in
set_option maxHeartbeats 4000000 in
theorem L_shift_26 {d : Nat} {Post : Option Value → Mm → Prop} {Φ : Int32 → Mm → Prop} (hΦ : ∀ r M1, Φ r M1 → Post (some (.int r)) M1) : ∀ (x1 : Int32) (M : Mm), D_shift_26 Φ (x1, M) → WP (Ct (d + 3)) 60 Post (26, [some (.ref 0), some (.int x1)], [], M) := by
  intro x1 M h
  replace h : S_Bike_canShift 7 M x1 (fun r2 => ((r2 = 0 → Φ (-1000002) M) ∧ (¬ (r2 = 0) → S_Acts_keep M (fun M4 => S_Bike_shiftCog 7 M4 x1 (fun M5 => Φ (M5 7 6) M5))))) := h
  refine WP.blk [(.aload_n 0, 1, (0, 0), .null), (.getfield 26, 3, (6, 2), .null), (.iload_n 1, 1, (0, 0), .null)] (G := True) (c' := (31, [some (.ref 0), some (.int x1)], [.int x1, .ref 7], M)) (by decide +kernel) rfl trivial ?_
  refine WP.call (.invokevirtual 150, 3, (61, 2), .retAddr 1) (by decide +kernel) rfl (sp_Bike_canShift (d := d + 0) (by decide) h (fun r2 h => ?_))
  show WP (Ct (d + 3)) 60 Post (34, [some (.ref 0), some (.int x1)], [.int r2], M)
  refine WP.br (.ifCond .ne 6, 3, (40, 0), .null) (by decide +kernel) rfl (fun c3 => ?_) (fun c3 => ?_)
  · replace h := h.2 c3
    refine WP.blk [(.aload_n 0, 1, (0, 0), .null), (.getfield 40, 3, (6, 5), .null), (.aload_n 0, 1, (0, 0), .null), (.getfield 26, 3, (6, 2), .null)] (G := True) (c' := (48, [some (.ref 0), some (.int x1)], [.ref 7, .ref 32], M)) (by decide +kernel) rfl trivial ?_
    refine WP.call (.invokevirtual 143, 3, (53, 2), .retAddr 0) (by decide +kernel) rfl (sp_Acts_keep (d := d + 1) h (fun M4 h => ?_))
    show WP (Ct (d + 3)) 60 Post (51, [some (.ref 0), some (.int x1)], [], M4)
    refine WP.blk [(.aload_n 0, 1, (0, 0), .null), (.getfield 26, 3, (6, 2), .null), (.iload_n 1, 1, (0, 0), .null)] (G := True) (c' := (56, [some (.ref 0), some (.int x1)], [.int x1, .ref 7], M4)) (by decide +kernel) rfl trivial ?_
    refine WP.call (.invokevirtual 153, 3, (63, 2), .retAddr 1) (by decide +kernel) rfl (sp_Bike_shiftCog (d := d + 0) (by decide) h (fun M5 h => ?_))
    show WP (Ct (d + 3)) 60 Post (59, [some (.ref 0), some (.int x1)], [], M5)
    refine WP.blk [(.aload_n 0, 1, (0, 0), .null), (.getfield 26, 3, (6, 2), .null), (.getfield 156, 3, (1, 6), .null)] (G := True) (c' := (66, [some (.ref 0), some (.int x1)], [.int (M5 7 6)], M5)) (by decide +kernel) rfl trivial ?_
    exact WP.ret (.ireturn, 1, (0, 0), .null) (rk := 1) (by decide +kernel) (by decide +kernel) rfl trivial (hΦ _ _ h)
  · replace h := h.1 (Classical.not_not.mp c3)
    refine WP.blk [(.ldc 142, 2, (0, 0), .int (-1000002))] (G := True) (c' := (39, [some (.ref 0), some (.int x1)], [.int (-1000002)], M)) (by decide +kernel) rfl trivial ?_
    exact WP.ret (.ireturn, 1, (0, 0), .null) (rk := 1) (by decide +kernel) (by decide +kernel) rfl trivial (hΦ _ _ h)
set_option maxRecDepth 100000 in
set_option maxHeartbeats 4000000 in
theorem sp_shift {d : Nat} {Post : Option Value → Mm → Prop} {M : Mm} {a1 : Int32} {Φ : Int32 → Mm → Prop} (h : S_shift M a1 Φ) (hΦ : ∀ r M1, Φ r M1 → Post (some (.int r)) M1) : Ct (d + 4) 60 [.ref 0, .int a1] M Post := by
  refine Ct.go (n := 2) (E := [some (.ref 0), some (.int a1)]) (by decide +kernel) (by simp [Value.category]) rfl ?_
  refine WP.blk [(.aload_n 0, 1, (0, 0), .null), (.getfield 26, 3, (6, 2), .null), (.getfield 134, 3, (1, 0), .null)] (G := True) (c' := (7, [some (.ref 0), some (.int a1)], [.int (M 7 0)], M)) (by decide +kernel) rfl trivial ?_
  refine WP.br (.ifCond .ne 6, 3, (13, 0), .null) (by decide +kernel) rfl (fun c1 => ?_) (fun c1 => ?_)
  · replace h := h.2 c1
    refine WP.blk [(.iload_n 1, 1, (0, 0), .null), (.iconst 1, 1, (0, 0), .int 1)] (G := True) (c' := (15, [some (.ref 0), some (.int a1)], [.int 1, .int a1], M)) (by decide +kernel) rfl trivial ?_
    refine WP.br (.if_icmp .eq 11, 3, (26, 0), .null) (by decide +kernel) rfl (fun c2 => ?_) (fun c2 => ?_)
    · replace h := h.1 c2
      exact L_shift_26 hΦ _ _ h
    · replace h := h.2 c2
      refine WP.blk [(.iload_n 1, 1, (0, 0), .null), (.iconst (-1), 1, (0, 0), .int (-1))] (G := True) (c' := (20, [some (.ref 0), some (.int a1)], [.int (-1), .int a1], M)) (by decide +kernel) rfl trivial ?_
      refine WP.br (.if_icmp .eq 6, 3, (26, 0), .null) (by decide +kernel) rfl (fun c3 => ?_) (fun c3 => ?_)
      · replace h := h.1 c3
        exact L_shift_26 hΦ _ _ h
      · replace h := h.2 c3
        refine WP.blk [(.ldc 73, 2, (0, 0), .int (-1000001))] (G := True) (c' := (25, [some (.ref 0), some (.int a1)], [.int (-1000001)], M)) (by decide +kernel) rfl trivial ?_
        exact WP.ret (.ireturn, 1, (0, 0), .null) (rk := 1) (by decide +kernel) (by decide +kernel) rfl trivial (hΦ _ _ h)
  · replace h := h.1 (Classical.not_not.mp c1)
    refine WP.blk [(.ldc 142, 2, (0, 0), .int (-1000002))] (G := True) (c' := (12, [some (.ref 0), some (.int a1)], [.int (-1000002)], M)) (by decide +kernel) rfl trivial ?_
    exact WP.ret (.ireturn, 1, (0, 0), .null) (rk := 1) (by decide +kernel) (by decide +kernel) rfl trivial (hΦ _ _ h)
/-- GearRoad.front(I)I -/
def D_front_26 (Φ : Int32 → Mm → Prop) : Int32 × Mm → Prop
  | (x1, M) => S_Bike_hasRing 7 M ((M 7 5) + x1) (fun r2 => ((r2 = 0 → Φ (-1000002) M) ∧ (¬ (r2 = 0) → S_Acts_keep M (fun M4 => S_Bike_shiftRing 7 M4 ((M4 7 5) + x1) (fun M5 => Φ (M5 7 5) M5)))))
def S_front (M : Mm) (a1 : Int32) (Φ : Int32 → Mm → Prop) : Prop := (((M 7 0) = 0 → Φ (-1000002) M) ∧ (¬ ((M 7 0) = 0) → ((a1 = 1 → D_front_26 Φ (a1, M)) ∧ (¬ (a1 = 1) → ((a1 = (-1) → D_front_26 Φ (a1, M)) ∧ (¬ (a1 = (-1)) → Φ (-1000001) M))))))
set_option maxRecDepth 100000 in
set_option maxHeartbeats 4000000 in
theorem L_front_26 {d : Nat} {Post : Option Value → Mm → Prop} {Φ : Int32 → Mm → Prop} (hΦ : ∀ r M1, Φ r M1 → Post (some (.int r)) M1) : ∀ (x1 : Int32) (M : Mm), D_front_26 Φ (x1, M) → WP (Ct (d + 3)) 65 Post (26, [some (.ref 0), some (.int x1)], [], M) := by
  intro x1 M h
  replace h : S_Bike_hasRing 7 M ((M 7 5) + x1) (fun r2 => ((r2 = 0 → Φ (-1000002) M) ∧ (¬ (r2 = 0) → S_Acts_keep M (fun M4 => S_Bike_shiftRing 7 M4 ((M4 7 5) + x1) (fun M5 => Φ (M5 7 5) M5))))) := h
  refine WP.blk [(.aload_n 0, 1, (0, 0), .null), (.getfield 26, 3, (6, 2), .null), (.aload_n 0, 1, (0, 0), .null), (.getfield 26, 3, (6, 2), .null), (.getfield 159, 3, (1, 5), .null), (.iload_n 1, 1, (0, 0), .null), (.iadd, 1, (0, 0), .null)] (G := True) (c' := (39, [some (.ref 0), some (.int x1)], [.int ((M 7 5) + x1), .ref 7], M)) (by decide +kernel) rfl trivial ?_
  refine WP.call (.invokevirtual 162, 3, (49, 2), .retAddr 1) (by decide +kernel) rfl (sp_Bike_hasRing (d := d + 1) (by decide) h (fun r2 h => ?_))
  show WP (Ct (d + 3)) 65 Post (42, [some (.ref 0), some (.int x1)], [.int r2], M)
  refine WP.br (.ifCond .ne 6, 3, (48, 0), .null) (by decide +kernel) rfl (fun c3 => ?_) (fun c3 => ?_)
  · replace h := h.2 c3
    refine WP.blk [(.aload_n 0, 1, (0, 0), .null), (.getfield 40, 3, (6, 5), .null), (.aload_n 0, 1, (0, 0), .null), (.getfield 26, 3, (6, 2), .null)] (G := True) (c' := (56, [some (.ref 0), some (.int x1)], [.ref 7, .ref 32], M)) (by decide +kernel) rfl trivial ?_
    refine WP.call (.invokevirtual 143, 3, (53, 2), .retAddr 0) (by decide +kernel) rfl (sp_Acts_keep (d := d + 1) h (fun M4 h => ?_))
    show WP (Ct (d + 3)) 65 Post (59, [some (.ref 0), some (.int x1)], [], M4)
    refine WP.blk [(.aload_n 0, 1, (0, 0), .null), (.getfield 26, 3, (6, 2), .null), (.aload_n 0, 1, (0, 0), .null), (.getfield 26, 3, (6, 2), .null), (.getfield 159, 3, (1, 5), .null), (.iload_n 1, 1, (0, 0), .null), (.iadd, 1, (0, 0), .null)] (G := True) (c' := (72, [some (.ref 0), some (.int x1)], [.int ((M4 7 5) + x1), .ref 7], M4)) (by decide +kernel) rfl trivial ?_
    refine WP.call (.invokevirtual 165, 3, (66, 2), .retAddr 1) (by decide +kernel) rfl (sp_Bike_shiftRing (d := d + 0) (by decide) h (fun M5 h => ?_))
    show WP (Ct (d + 3)) 65 Post (75, [some (.ref 0), some (.int x1)], [], M5)
    refine WP.blk [(.aload_n 0, 1, (0, 0), .null), (.getfield 26, 3, (6, 2), .null), (.getfield 159, 3, (1, 5), .null)] (G := True) (c' := (82, [some (.ref 0), some (.int x1)], [.int (M5 7 5)], M5)) (by decide +kernel) rfl trivial ?_
    exact WP.ret (.ireturn, 1, (0, 0), .null) (rk := 1) (by decide +kernel) (by decide +kernel) rfl trivial (hΦ _ _ h)
  · replace h := h.1 (Classical.not_not.mp c3)
    refine WP.blk [(.ldc 142, 2, (0, 0), .int (-1000002))] (G := True) (c' := (47, [some (.ref 0), some (.int x1)], [.int (-1000002)], M)) (by decide +kernel) rfl trivial ?_
    exact WP.ret (.ireturn, 1, (0, 0), .null) (rk := 1) (by decide +kernel) (by decide +kernel) rfl trivial (hΦ _ _ h)
set_option maxRecDepth 100000 in
set_option maxHeartbeats 4000000 in
theorem sp_front {d : Nat} {Post : Option Value → Mm → Prop} {M : Mm} {a1 : Int32} {Φ : Int32 → Mm → Prop} (h : S_front M a1 Φ) (hΦ : ∀ r M1, Φ r M1 → Post (some (.int r)) M1) : Ct (d + 4) 65 [.ref 0, .int a1] M Post := by
  refine Ct.go (n := 2) (E := [some (.ref 0), some (.int a1)]) (by decide +kernel) (by simp [Value.category]) rfl ?_
  refine WP.blk [(.aload_n 0, 1, (0, 0), .null), (.getfield 26, 3, (6, 2), .null), (.getfield 134, 3, (1, 0), .null)] (G := True) (c' := (7, [some (.ref 0), some (.int a1)], [.int (M 7 0)], M)) (by decide +kernel) rfl trivial ?_
  refine WP.br (.ifCond .ne 6, 3, (13, 0), .null) (by decide +kernel) rfl (fun c1 => ?_) (fun c1 => ?_)
  · replace h := h.2 c1
    refine WP.blk [(.iload_n 1, 1, (0, 0), .null), (.iconst 1, 1, (0, 0), .int 1)] (G := True) (c' := (15, [some (.ref 0), some (.int a1)], [.int 1, .int a1], M)) (by decide +kernel) rfl trivial ?_
    refine WP.br (.if_icmp .eq 11, 3, (26, 0), .null) (by decide +kernel) rfl (fun c2 => ?_) (fun c2 => ?_)
    · replace h := h.1 c2
      exact L_front_26 hΦ _ _ h
    · replace h := h.2 c2
      refine WP.blk [(.iload_n 1, 1, (0, 0), .null), (.iconst (-1), 1, (0, 0), .int (-1))] (G := True) (c' := (20, [some (.ref 0), some (.int a1)], [.int (-1), .int a1], M)) (by decide +kernel) rfl trivial ?_
      refine WP.br (.if_icmp .eq 6, 3, (26, 0), .null) (by decide +kernel) rfl (fun c3 => ?_) (fun c3 => ?_)
      · replace h := h.1 c3
        exact L_front_26 hΦ _ _ h
      · replace h := h.2 c3
        refine WP.blk [(.ldc 73, 2, (0, 0), .int (-1000001))] (G := True) (c' := (25, [some (.ref 0), some (.int a1)], [.int (-1000001)], M)) (by decide +kernel) rfl trivial ?_
        exact WP.ret (.ireturn, 1, (0, 0), .null) (rk := 1) (by decide +kernel) (by decide +kernel) rfl trivial (hΦ _ _ h)
  · replace h := h.1 (Classical.not_not.mp c1)
    refine WP.blk [(.ldc 142, 2, (0, 0), .int (-1000002))] (G := True) (c' := (12, [some (.ref 0), some (.int a1)], [.int (-1000002)], M)) (by decide +kernel) rfl trivial ?_
    exact WP.ret (.ireturn, 1, (0, 0), .null) (rk := 1) (by decide +kernel) (by decide +kernel) rfl trivial (hΦ _ _ h)
/-- GearRoad.about()I -/
def S_about (M : Mm) (Φ : Int32 → Mm → Prop) : Prop := (((M 7 0) = 0 → Φ (-1000002) M) ∧ (¬ ((M 7 0) = 0) → S_Acts_keep M (fun M2 => S_Bike_turnAbout 7 M2 (fun M3 => Φ (M3 7 7) M3))))
set_option maxRecDepth 100000 in
set_option maxHeartbeats 4000000 in
theorem sp_about {d : Nat} {Post : Option Value → Mm → Prop} {M : Mm} {Φ : Int32 → Mm → Prop} (h : S_about M Φ) (hΦ : ∀ r M1, Φ r M1 → Post (some (.int r)) M1) : Ct (d + 3) 67 [.ref 0] M Post := by
  refine Ct.go (n := 1) (E := [some (.ref 0)]) (by decide +kernel) (by simp [Value.category]) rfl ?_
  refine WP.blk [(.aload_n 0, 1, (0, 0), .null), (.getfield 26, 3, (6, 2), .null), (.getfield 134, 3, (1, 0), .null)] (G := True) (c' := (7, [some (.ref 0)], [.int (M 7 0)], M)) (by decide +kernel) rfl trivial ?_
  refine WP.br (.ifCond .ne 6, 3, (13, 0), .null) (by decide +kernel) rfl (fun c1 => ?_) (fun c1 => ?_)
  · replace h := h.2 c1
    refine WP.blk [(.aload_n 0, 1, (0, 0), .null), (.getfield 40, 3, (6, 5), .null), (.aload_n 0, 1, (0, 0), .null), (.getfield 26, 3, (6, 2), .null)] (G := True) (c' := (21, [some (.ref 0)], [.ref 7, .ref 32], M)) (by decide +kernel) rfl trivial ?_
    refine WP.call (.invokevirtual 143, 3, (53, 2), .retAddr 0) (by decide +kernel) rfl (sp_Acts_keep (d := d + 0) h (fun M2 h => ?_))
    show WP (Ct (d + 2)) 67 Post (24, [some (.ref 0)], [], M2)
    refine WP.blk [(.aload_n 0, 1, (0, 0), .null), (.getfield 26, 3, (6, 2), .null)] (G := True) (c' := (28, [some (.ref 0)], [.ref 7], M2)) (by decide +kernel) rfl trivial ?_
    refine WP.call (.invokevirtual 168, 3, (68, 1), .retAddr 1) (by decide +kernel) rfl (sp_Bike_turnAbout (d := d + 1) (by decide) h (fun M3 h => ?_))
    show WP (Ct (d + 2)) 67 Post (31, [some (.ref 0)], [], M3)
    refine WP.blk [(.aload_n 0, 1, (0, 0), .null), (.getfield 26, 3, (6, 2), .null), (.getfield 171, 3, (1, 7), .null)] (G := True) (c' := (38, [some (.ref 0)], [.int (M3 7 7)], M3)) (by decide +kernel) rfl trivial ?_
    exact WP.ret (.ireturn, 1, (0, 0), .null) (rk := 1) (by decide +kernel) (by decide +kernel) rfl trivial (hΦ _ _ h)
  · replace h := h.1 (Classical.not_not.mp c1)
    refine WP.blk [(.ldc 142, 2, (0, 0), .int (-1000002))] (G := True) (c' := (12, [some (.ref 0)], [.int (-1000002)], M)) (by decide +kernel) rfl trivial ?_
    exact WP.ret (.ireturn, 1, (0, 0), .null) (rk := 1) (by decide +kernel) (by decide +kernel) rfl trivial (hΦ _ _ h)
/-- GearRoad.strength(I)I -/
def S_strength (M : Mm) (a1 : Int32) (Φ : Int32 → Mm → Prop) : Prop := (((M 7 0) = 0 → Φ (-1000002) M) ∧ (¬ ((M 7 0) = 0) → S_within M a1 1 99 (fun r2 => ((r2 = 0 → Φ (-1000001) M) ∧ (¬ (r2 = 0) → S_Acts_keep M (fun M4 => (∀ M5, M5 = mu M4 7 4 a1 → Φ (M4 7 4) M5)))))))
set_option maxRecDepth 100000 in
set_option maxHeartbeats 4000000 in
theorem sp_strength {d : Nat} {Post : Option Value → Mm → Prop} {M : Mm} {a1 : Int32} {Φ : Int32 → Mm → Prop} (h : S_strength M a1 Φ) (hΦ : ∀ r M1, Φ r M1 → Post (some (.int r)) M1) : Ct (d + 3) 69 [.ref 0, .int a1] M Post := by
  refine Ct.go (n := 3) (E := [some (.ref 0), some (.int a1), none]) (by decide +kernel) (by simp [Value.category]) rfl ?_
  refine WP.blk [(.aload_n 0, 1, (0, 0), .null), (.getfield 26, 3, (6, 2), .null), (.getfield 134, 3, (1, 0), .null)] (G := True) (c' := (7, [some (.ref 0), some (.int a1), none], [.int (M 7 0)], M)) (by decide +kernel) rfl trivial ?_
  refine WP.br (.ifCond .ne 6, 3, (13, 0), .null) (by decide +kernel) rfl (fun c1 => ?_) (fun c1 => ?_)
  · replace h := h.2 c1
    refine WP.blk [(.iload_n 1, 1, (0, 0), .null), (.iconst 1, 1, (0, 0), .int 1), (.bipush 99, 2, (0, 0), .int 99)] (G := True) (c' := (17, [some (.ref 0), some (.int a1), none], [.int 99, .int 1, .int a1], M)) (by decide +kernel) rfl trivial ?_
    refine WP.call (.invokestatic 69, 3, (10, 3), .null) (by decide +kernel) rfl (sp_within (d := d + 1) h (fun r2 h => ?_))
    show WP (Ct (d + 2)) 69 Post (20, [some (.ref 0), some (.int a1), none], [.int r2], M)
    refine WP.br (.ifCond .ne 6, 3, (26, 0), .null) (by decide +kernel) rfl (fun c3 => ?_) (fun c3 => ?_)
    · replace h := h.2 c3
      refine WP.blk [(.aload_n 0, 1, (0, 0), .null), (.getfield 40, 3, (6, 5), .null), (.aload_n 0, 1, (0, 0), .null), (.getfield 26, 3, (6, 2), .null)] (G := True) (c' := (34, [some (.ref 0), some (.int a1), none], [.ref 7, .ref 32], M)) (by decide +kernel) rfl trivial ?_
      refine WP.call (.invokevirtual 143, 3, (53, 2), .retAddr 0) (by decide +kernel) rfl (sp_Acts_keep (d := d + 0) h (fun M4 h => ?_))
      show WP (Ct (d + 2)) 69 Post (37, [some (.ref 0), some (.int a1), none], [], M4)
      refine WP.blk [(.aload_n 0, 1, (0, 0), .null), (.getfield 26, 3, (6, 2), .null), (.getfield 174, 3, (1, 4), .null), (.istore_n 2, 1, (0, 0), .null), (.aload_n 0, 1, (0, 0), .null), (.getfield 26, 3, (6, 2), .null), (.iload_n 1, 1, (0, 0), .null), (.putfield 174, 3, (1, 4), .null)] (G := True) (c' := (53, [some (.ref 0), some (.int a1), some (.int (M4 7 4))], [], (mu M4 7 4 a1))) (by decide +kernel) rfl trivial ?_
      replace h := h (mu M4 7 4 a1) rfl
      generalize (mu M4 7 4 a1) = M5 at h ⊢
      refine WP.blk [(.iload_n 2, 1, (0, 0), .null)] (G := True) (c' := (54, [some (.ref 0), some (.int a1), some (.int (M4 7 4))], [.int (M4 7 4)], M5)) (by decide +kernel) rfl trivial ?_
      exact WP.ret (.ireturn, 1, (0, 0), .null) (rk := 1) (by decide +kernel) (by decide +kernel) rfl trivial (hΦ _ _ h)
    · replace h := h.1 (Classical.not_not.mp c3)
      refine WP.blk [(.ldc 73, 2, (0, 0), .int (-1000001))] (G := True) (c' := (25, [some (.ref 0), some (.int a1), none], [.int (-1000001)], M)) (by decide +kernel) rfl trivial ?_
      exact WP.ret (.ireturn, 1, (0, 0), .null) (rk := 1) (by decide +kernel) (by decide +kernel) rfl trivial (hΦ _ _ h)
  · replace h := h.1 (Classical.not_not.mp c1)
    refine WP.blk [(.ldc 142, 2, (0, 0), .int (-1000002))] (G := True) (c' := (12, [some (.ref 0), some (.int a1), none], [.int (-1000002)], M)) (by decide +kernel) rfl trivial ?_
    exact WP.ret (.ireturn, 1, (0, 0), .null) (rk := 1) (by decide +kernel) (by decide +kernel) rfl trivial (hΦ _ _ h)
/-- GearRoad.slope(II)I -/
def S_slope (M : Mm) (a1 : Int32) (a2 : Int32) (Φ : Int32 → Mm → Prop) : Prop := S_Bike_hasPiece 7 M a1 (fun r1 => ((r1 = 0 → Φ (-1000001) M) ∧ (¬ (r1 = 0) → S_within M a2 0 9 (fun r3 => ((r3 = 0 → Φ (-1000001) M) ∧ (¬ (r3 = 0) → S_Acts_keep M (fun M5 => vp_in a1 6 ∧ vp_in a1 6 ∧ (∀ M6, M6 = mu M5 12 (Int32.toNatClampNeg a1) a2 → Φ (M5 12 (Int32.toNatClampNeg a1)) M6))))))))
set_option maxRecDepth 100000 in
set_option maxHeartbeats 4000000 in
theorem sp_slope {d : Nat} {Post : Option Value → Mm → Prop} {M : Mm} {a1 : Int32} {a2 : Int32} {Φ : Int32 → Mm → Prop} (h : S_slope M a1 a2 Φ) (hΦ : ∀ r M1, Φ r M1 → Post (some (.int r)) M1) : Ct (d + 3) 70 [.ref 0, .int a1, .int a2] M Post := by
  refine Ct.go (n := 4) (E := [some (.ref 0), some (.int a1), some (.int a2), none]) (by decide +kernel) (by simp [Value.category]) rfl ?_
  refine WP.blk [(.aload_n 0, 1, (0, 0), .null), (.getfield 26, 3, (6, 2), .null), (.iload_n 1, 1, (0, 0), .null)] (G := True) (c' := (5, [some (.ref 0), some (.int a1), some (.int a2), none], [.int a1, .ref 7], M)) (by decide +kernel) rfl trivial ?_
  refine WP.call (.invokevirtual 177, 3, (45, 2), .retAddr 1) (by decide +kernel) rfl (sp_Bike_hasPiece (d := d + 0) (by decide) h (fun r1 h => ?_))
  show WP (Ct (d + 2)) 70 Post (8, [some (.ref 0), some (.int a1), some (.int a2), none], [.int r1], M)
  refine WP.br (.ifCond .eq 13, 3, (21, 0), .null) (by decide +kernel) rfl (fun c2 => ?_) (fun c2 => ?_)
  · replace h := h.1 c2
    refine WP.blk [(.ldc 73, 2, (0, 0), .int (-1000001))] (G := True) (c' := (23, [some (.ref 0), some (.int a1), some (.int a2), none], [.int (-1000001)], M)) (by decide +kernel) rfl trivial ?_
    exact WP.ret (.ireturn, 1, (0, 0), .null) (rk := 1) (by decide +kernel) (by decide +kernel) rfl trivial (hΦ _ _ h)
  · replace h := h.2 c2
    refine WP.blk [(.iload_n 2, 1, (0, 0), .null), (.iconst 0, 1, (0, 0), .int 0), (.bipush 9, 2, (0, 0), .int 9)] (G := True) (c' := (15, [some (.ref 0), some (.int a1), some (.int a2), none], [.int 9, .int 0, .int a2], M)) (by decide +kernel) rfl trivial ?_
    refine WP.call (.invokestatic 69, 3, (10, 3), .null) (by decide +kernel) rfl (sp_within (d := d + 1) h (fun r3 h => ?_))
    show WP (Ct (d + 2)) 70 Post (18, [some (.ref 0), some (.int a1), some (.int a2), none], [.int r3], M)
    refine WP.br (.ifCond .ne 6, 3, (24, 0), .null) (by decide +kernel) rfl (fun c4 => ?_) (fun c4 => ?_)
    · replace h := h.2 c4
      refine WP.blk [(.aload_n 0, 1, (0, 0), .null), (.getfield 40, 3, (6, 5), .null), (.aload_n 0, 1, (0, 0), .null), (.getfield 26, 3, (6, 2), .null)] (G := True) (c' := (32, [some (.ref 0), some (.int a1), some (.int a2), none], [.ref 7, .ref 32], M)) (by decide +kernel) rfl trivial ?_
      refine WP.call (.invokevirtual 143, 3, (53, 2), .retAddr 0) (by decide +kernel) rfl (sp_Acts_keep (d := d + 0) h (fun M5 h => ?_))
      show WP (Ct (d + 2)) 70 Post (35, [some (.ref 0), some (.int a1), some (.int a2), none], [], M5)
      refine WP.blk [(.aload_n 0, 1, (0, 0), .null), (.getfield 26, 3, (6, 2), .null), (.getfield 180, 3, (1, 13), .null), (.iload_n 1, 1, (0, 0), .null), (.iaload, 1, (0, 0), .null), (.istore_n 3, 1, (0, 0), .null), (.aload_n 0, 1, (0, 0), .null), (.getfield 26, 3, (6, 2), .null), (.getfield 180, 3, (1, 13), .null), (.iload_n 1, 1, (0, 0), .null), (.iload_n 2, 1, (0, 0), .null), (.iastore, 1, (0, 0), .null)] (G := vp_in a1 6 ∧ vp_in a1 6 ∧ True) (c' := (55, [some (.ref 0), some (.int a1), some (.int a2), some (.int (M5 12 (Int32.toNatClampNeg a1)))], [], (mu M5 12 (Int32.toNatClampNeg a1) a2))) (by decide +kernel) rfl ⟨h.1, h.2.1, trivial⟩ ?_
      replace h := h.2.2
      replace h := h (mu M5 12 (Int32.toNatClampNeg a1) a2) rfl
      generalize (mu M5 12 (Int32.toNatClampNeg a1) a2) = M6 at h ⊢
      refine WP.blk [(.iload_n 3, 1, (0, 0), .null)] (G := True) (c' := (56, [some (.ref 0), some (.int a1), some (.int a2), some (.int (M5 12 (Int32.toNatClampNeg a1)))], [.int (M5 12 (Int32.toNatClampNeg a1))], M6)) (by decide +kernel) rfl trivial ?_
      exact WP.ret (.ireturn, 1, (0, 0), .null) (rk := 1) (by decide +kernel) (by decide +kernel) rfl trivial (hΦ _ _ h)
    · replace h := h.1 (Classical.not_not.mp c4)
      refine WP.blk [(.ldc 73, 2, (0, 0), .int (-1000001))] (G := True) (c' := (23, [some (.ref 0), some (.int a1), some (.int a2), none], [.int (-1000001)], M)) (by decide +kernel) rfl trivial ?_
      exact WP.ret (.ireturn, 1, (0, 0), .null) (rk := 1) (by decide +kernel) (by decide +kernel) rfl trivial (hΦ _ _ h)
/-- GearRoad.undo()I -/
def S_undo (M : Mm) (Φ : Int32 → Mm → Prop) : Prop := (((M 32 1) = 0 → Φ (-1000002) M) ∧ (¬ ((M 32 1) = 0) → S_Acts_takeBack M (fun M2 => Φ (M2 32 1) M2)))
set_option maxRecDepth 100000 in
set_option maxHeartbeats 4000000 in
theorem sp_undo {d : Nat} {Post : Option Value → Mm → Prop} {M : Mm} {Φ : Int32 → Mm → Prop} (h : S_undo M Φ) (hΦ : ∀ r M1, Φ r M1 → Post (some (.int r)) M1) : Ct (d + 2) 71 [.ref 0] M Post := by
  refine Ct.go (n := 1) (E := [some (.ref 0)]) (by decide +kernel) (by simp [Value.category]) rfl ?_
  refine WP.blk [(.aload_n 0, 1, (0, 0), .null), (.getfield 40, 3, (6, 5), .null), (.getfield 183, 3, (0, 1), .null)] (G := True) (c' := (7, [some (.ref 0)], [.int (M 32 1)], M)) (by decide +kernel) rfl trivial ?_
  refine WP.br (.ifCond .ne 6, 3, (13, 0), .null) (by decide +kernel) rfl (fun c1 => ?_) (fun c1 => ?_)
  · replace h := h.2 c1
    refine WP.blk [(.aload_n 0, 1, (0, 0), .null), (.getfield 40, 3, (6, 5), .null), (.aload_n 0, 1, (0, 0), .null), (.getfield 26, 3, (6, 2), .null)] (G := True) (c' := (21, [some (.ref 0)], [.ref 7, .ref 32], M)) (by decide +kernel) rfl trivial ?_
    refine WP.call (.invokevirtual 184, 3, (72, 2), .retAddr 0) (by decide +kernel) rfl (sp_Acts_takeBack (d := d + 0) h (fun M2 h => ?_))
    show WP (Ct (d + 1)) 71 Post (24, [some (.ref 0)], [], M2)
    refine WP.blk [(.aload_n 0, 1, (0, 0), .null), (.getfield 40, 3, (6, 5), .null), (.getfield 183, 3, (0, 1), .null)] (G := True) (c' := (31, [some (.ref 0)], [.int (M2 32 1)], M2)) (by decide +kernel) rfl trivial ?_
    exact WP.ret (.ireturn, 1, (0, 0), .null) (rk := 1) (by decide +kernel) (by decide +kernel) rfl trivial (hΦ _ _ h)
  · replace h := h.1 (Classical.not_not.mp c1)
    refine WP.blk [(.ldc 142, 2, (0, 0), .int (-1000002))] (G := True) (c' := (12, [some (.ref 0)], [.int (-1000002)], M)) (by decide +kernel) rfl trivial ?_
    exact WP.ret (.ireturn, 1, (0, 0), .null) (rk := 1) (by decide +kernel) (by decide +kernel) rfl trivial (hΦ _ _ h)
/-- GearRoad.cog(II)I -/
def S_cog (M : Mm) (a1 : Int32) (a2 : Int32) (Φ : Int32 → Prop) : Prop := S_Bike_hasCog 7 M a1 (fun r1 => ((r1 = 0 → Φ (-1000001)) ∧ (¬ (r1 = 0) → ((a2 = 0 → vp_in a1 6 ∧ Φ (M 10 (Int32.toNatClampNeg a1))) ∧ (¬ (a2 = 0) → ((a2 = 1 → vp_in a1 6 ∧ Φ (M 11 (Int32.toNatClampNeg a1))) ∧ (¬ (a2 = 1) → ((a2 = 2 → S_Bike_turnsOnto 7 M a1 (fun r6 => Φ r6)) ∧ (¬ (a2 = 2) → ((a2 = 3 → S_Bike_mayLeave 7 M a1 (M 7 7) (fun r8 => ((r8 = 0 → Φ 0) ∧ (¬ (r8 = 0) → Φ 1)))) ∧ (¬ (a2 = 3) → Φ (-1000001))))))))))))
set_option maxRecDepth 100000 in
set_option maxHeartbeats 4000000 in
theorem sp_cog {d : Nat} {Post : Option Value → Mm → Prop} {M : Mm} {a1 : Int32} {a2 : Int32} {Φ : Int32 → Prop} (h : S_cog M a1 a2 Φ) (hΦ : ∀ r, Φ r → Post (some (.int r)) M) : Ct (d + 3) 73 [.ref 0, .int a1, .int a2] M Post := by
  refine Ct.go (n := 3) (E := [some (.ref 0), some (.int a1), some (.int a2)]) (by decide +kernel) (by simp [Value.category]) rfl ?_
  refine WP.blk [(.aload_n 0, 1, (0, 0), .null), (.getfield 26, 3, (6, 2), .null), (.iload_n 1, 1, (0, 0), .null)] (G := True) (c' := (5, [some (.ref 0), some (.int a1), some (.int a2)], [.int a1, .ref 7], M)) (by decide +kernel) rfl trivial ?_
  refine WP.call (.invokevirtual 187, 3, (50, 2), .retAddr 1) (by decide +kernel) rfl (sp_Bike_hasCog (d := d + 0) (by decide) h (fun r1 h => ?_))
  show WP (Ct (d + 2)) 73 Post (8, [some (.ref 0), some (.int a1), some (.int a2)], [.int r1], M)
  refine WP.br (.ifCond .ne 6, 3, (14, 0), .null) (by decide +kernel) rfl (fun c2 => ?_) (fun c2 => ?_)
  · replace h := h.2 c2
    refine WP.blk [(.iload_n 2, 1, (0, 0), .null)] (G := True) (c' := (15, [some (.ref 0), some (.int a1), some (.int a2)], [.int a2], M)) (by decide +kernel) rfl trivial ?_
    by_cases e3 : a2 = 0
    · refine WP.sw (.tableswitch 82 0 3 #[29, 39, 49, 58], 29, (0, 0), .null) 44 (by decide +kernel) (Or.inl ⟨_, _, _, _, rfl⟩) (by rw [e3]; decide) ?_
      replace h := h.1 e3
      refine WP.blk [(.aload_n 0, 1, (0, 0), .null), (.getfield 26, 3, (6, 2), .null), (.getfield 190, 3, (1, 11), .null), (.iload_n 1, 1, (0, 0), .null), (.iaload, 1, (0, 0), .null)] (G := vp_in a1 6 ∧ True) (c' := (53, [some (.ref 0), some (.int a1), some (.int a2)], [.int (M 10 (Int32.toNatClampNeg a1))], M)) (by decide +kernel) rfl ⟨h.1, trivial⟩ ?_
      replace h := h.2
      exact WP.ret (.ireturn, 1, (0, 0), .null) (rk := 1) (by decide +kernel) (by decide +kernel) rfl trivial (hΦ _ h)
    replace h := h.2 e3
    by_cases e4 : a2 = 1
    · refine WP.sw (.tableswitch 82 0 3 #[29, 39, 49, 58], 29, (0, 0), .null) 54 (by decide +kernel) (Or.inl ⟨_, _, _, _, rfl⟩) (by rw [e4]; decide) ?_
      replace h := h.1 e4
      refine WP.blk [(.aload_n 0, 1, (0, 0), .null), (.getfield 26, 3, (6, 2), .null), (.getfield 193, 3, (1, 12), .null), (.iload_n 1, 1, (0, 0), .null), (.iaload, 1, (0, 0), .null)] (G := vp_in a1 6 ∧ True) (c' := (63, [some (.ref 0), some (.int a1), some (.int a2)], [.int (M 11 (Int32.toNatClampNeg a1))], M)) (by decide +kernel) rfl ⟨h.1, trivial⟩ ?_
      replace h := h.2
      exact WP.ret (.ireturn, 1, (0, 0), .null) (rk := 1) (by decide +kernel) (by decide +kernel) rfl trivial (hΦ _ h)
    replace h := h.2 e4
    by_cases e5 : a2 = 2
    · refine WP.sw (.tableswitch 82 0 3 #[29, 39, 49, 58], 29, (0, 0), .null) 64 (by decide +kernel) (Or.inl ⟨_, _, _, _, rfl⟩) (by rw [e5]; decide) ?_
      replace h := h.1 e5
      refine WP.blk [(.aload_n 0, 1, (0, 0), .null), (.getfield 26, 3, (6, 2), .null), (.iload_n 1, 1, (0, 0), .null)] (G := True) (c' := (69, [some (.ref 0), some (.int a1), some (.int a2)], [.int a1, .ref 7], M)) (by decide +kernel) rfl trivial ?_
      refine WP.call (.invokevirtual 196, 3, (64, 2), .retAddr 1) (by decide +kernel) rfl (sp_Bike_turnsOnto (d := d + 1) (by decide) h (fun r6 h => ?_))
      show WP (Ct (d + 2)) 73 Post (72, [some (.ref 0), some (.int a1), some (.int a2)], [.int r6], M)
      exact WP.ret (.ireturn, 1, (0, 0), .null) (rk := 1) (by decide +kernel) (by decide +kernel) rfl trivial (hΦ _ h)
    replace h := h.2 e5
    by_cases e7 : a2 = 3
    · refine WP.sw (.tableswitch 82 0 3 #[29, 39, 49, 58], 29, (0, 0), .null) 73 (by decide +kernel) (Or.inl ⟨_, _, _, _, rfl⟩) (by rw [e7]; decide) ?_
      replace h := h.1 e7
      refine WP.blk [(.aload_n 0, 1, (0, 0), .null), (.getfield 26, 3, (6, 2), .null), (.iload_n 1, 1, (0, 0), .null), (.aload_n 0, 1, (0, 0), .null), (.getfield 26, 3, (6, 2), .null), (.getfield 171, 3, (1, 7), .null)] (G := True) (c' := (85, [some (.ref 0), some (.int a1), some (.int a2)], [.int (M 7 7), .int a1, .ref 7], M)) (by decide +kernel) rfl trivial ?_
      refine WP.call (.invokevirtual 199, 3, (62, 3), .retAddr 1) (by decide +kernel) rfl (sp_Bike_mayLeave (d := d + 1) (by decide) h (fun r8 h => ?_))
      show WP (Ct (d + 2)) 73 Post (88, [some (.ref 0), some (.int a1), some (.int a2)], [.int r8], M)
      refine WP.br (.ifCond .eq 7, 3, (95, 0), .null) (by decide +kernel) rfl (fun c9 => ?_) (fun c9 => ?_)
      · replace h := h.1 c9
        refine WP.blk [(.iconst 0, 1, (0, 0), .int 0)] (G := True) (c' := (96, [some (.ref 0), some (.int a1), some (.int a2)], [.int 0], M)) (by decide +kernel) rfl trivial ?_
        exact WP.ret (.ireturn, 1, (0, 0), .null) (rk := 1) (by decide +kernel) (by decide +kernel) rfl trivial (hΦ _ h)
      · replace h := h.2 c9
        refine WP.blk [(.iconst 1, 1, (0, 0), .int 1), (.goto 4, 3, (96, 0), .null)] (G := True) (c' := (96, [some (.ref 0), some (.int a1), some (.int a2)], [.int 1], M)) (by decide +kernel) rfl trivial ?_
        exact WP.ret (.ireturn, 1, (0, 0), .null) (rk := 1) (by decide +kernel) (by decide +kernel) rfl trivial (hΦ _ h)
    replace h := h.2 e7
    refine WP.sw (.tableswitch 82 0 3 #[29, 39, 49, 58], 29, (0, 0), .null) 97 (by decide +kernel) (Or.inl ⟨_, _, _, _, rfl⟩) (by rw [sw_out (by have := ne_toInt e3; rw [show (0 : Int32).toInt = 0 from by decide] at this; have := ne_toInt e4; rw [show (1 : Int32).toInt = 1 from by decide] at this; have := ne_toInt e5; rw [show (2 : Int32).toInt = 2 from by decide] at this; have := ne_toInt e7; rw [show (3 : Int32).toInt = 3 from by decide] at this; omega)]; rfl) ?_
    refine WP.blk [(.ldc 73, 2, (0, 0), .int (-1000001))] (G := True) (c' := (99, [some (.ref 0), some (.int a1), some (.int a2)], [.int (-1000001)], M)) (by decide +kernel) rfl trivial ?_
    exact WP.ret (.ireturn, 1, (0, 0), .null) (rk := 1) (by decide +kernel) (by decide +kernel) rfl trivial (hΦ _ h)
  · replace h := h.1 (Classical.not_not.mp c2)
    refine WP.blk [(.ldc 73, 2, (0, 0), .int (-1000001))] (G := True) (c' := (13, [some (.ref 0), some (.int a1), some (.int a2)], [.int (-1000001)], M)) (by decide +kernel) rfl trivial ?_
    exact WP.ret (.ireturn, 1, (0, 0), .null) (rk := 1) (by decide +kernel) (by decide +kernel) rfl trivial (hΦ _ h)
/-- GearRoad.ring(I)I -/
def S_ring (M : Mm) (a1 : Int32) (Φ : Int32 → Prop) : Prop := S_Bike_hasRing 7 M a1 (fun r1 => ((r1 = 0 → Φ (-1000001)) ∧ (¬ (r1 = 0) → vp_in a1 3 ∧ Φ (M 8 (Int32.toNatClampNeg a1)))))
set_option maxRecDepth 100000 in
set_option maxHeartbeats 4000000 in
theorem sp_ring {d : Nat} {Post : Option Value → Mm → Prop} {M : Mm} {a1 : Int32} {Φ : Int32 → Prop} (h : S_ring M a1 Φ) (hΦ : ∀ r, Φ r → Post (some (.int r)) M) : Ct (d + 3) 74 [.ref 0, .int a1] M Post := by
  refine Ct.go (n := 2) (E := [some (.ref 0), some (.int a1)]) (by decide +kernel) (by simp [Value.category]) rfl ?_
  refine WP.blk [(.aload_n 0, 1, (0, 0), .null), (.getfield 26, 3, (6, 2), .null), (.iload_n 1, 1, (0, 0), .null)] (G := True) (c' := (5, [some (.ref 0), some (.int a1)], [.int a1, .ref 7], M)) (by decide +kernel) rfl trivial ?_
  refine WP.call (.invokevirtual 162, 3, (49, 2), .retAddr 1) (by decide +kernel) rfl (sp_Bike_hasRing (d := d + 0) (by decide) h (fun r1 h => ?_))
  show WP (Ct (d + 2)) 74 Post (8, [some (.ref 0), some (.int a1)], [.int r1], M)
  refine WP.br (.ifCond .eq 15, 3, (23, 0), .null) (by decide +kernel) rfl (fun c2 => ?_) (fun c2 => ?_)
  · replace h := h.1 c2
    refine WP.blk [(.ldc 73, 2, (0, 0), .int (-1000001))] (G := True) (c' := (25, [some (.ref 0), some (.int a1)], [.int (-1000001)], M)) (by decide +kernel) rfl trivial ?_
    exact WP.ret (.ireturn, 1, (0, 0), .null) (rk := 1) (by decide +kernel) (by decide +kernel) rfl trivial (hΦ _ h)
  · replace h := h.2 c2
    refine WP.blk [(.aload_n 0, 1, (0, 0), .null), (.getfield 26, 3, (6, 2), .null), (.getfield 203, 3, (1, 9), .null), (.iload_n 1, 1, (0, 0), .null), (.iaload, 1, (0, 0), .null), (.goto 5, 3, (25, 0), .null)] (G := vp_in a1 3 ∧ True) (c' := (25, [some (.ref 0), some (.int a1)], [.int (M 8 (Int32.toNatClampNeg a1))], M)) (by decide +kernel) rfl ⟨h.1, trivial⟩ ?_
    replace h := h.2
    exact WP.ret (.ireturn, 1, (0, 0), .null) (rk := 1) (by decide +kernel) (by decide +kernel) rfl trivial (hΦ _ h)
/-- GearRoad.piece(II)I -/
def S_piece (M : Mm) (a1 : Int32) (a2 : Int32) (Φ : Int32 → Prop) : Prop := S_Bike_hasPiece 7 M a1 (fun r1 => ((r1 = 0 → Φ (-1000001)) ∧ (¬ (r1 = 0) → ((a2 = 0 → vp_in a1 6 ∧ Φ (M 12 (Int32.toNatClampNeg a1))) ∧ (¬ (a2 = 0) → ((a2 = 1 → S_Bike_gearsBorne 7 M a1 (fun r5 => Φ r5)) ∧ (¬ (a2 = 1) → ((a2 = 2 → S_Bike_gear 7 M (fun r7 => vp_in a1 6 ∧ S_Bike_loadOf 7 M r7 (M 12 (Int32.toNatClampNeg a1)) (fun r8 => Φ r8))) ∧ (¬ (a2 = 2) → Φ (-1000001))))))))))
set_option maxRecDepth 100000 in
set_option maxHeartbeats 4000000 in
theorem sp_piece {d : Nat} {Post : Option Value → Mm → Prop} {M : Mm} {a1 : Int32} {a2 : Int32} {Φ : Int32 → Prop} (h : S_piece M a1 a2 Φ) (hΦ : ∀ r, Φ r → Post (some (.int r)) M) : Ct (d + 7) 75 [.ref 0, .int a1, .int a2] M Post := by
  refine Ct.go (n := 3) (E := [some (.ref 0), some (.int a1), some (.int a2)]) (by decide +kernel) (by simp [Value.category]) rfl ?_
  refine WP.blk [(.aload_n 0, 1, (0, 0), .null), (.getfield 26, 3, (6, 2), .null), (.iload_n 1, 1, (0, 0), .null)] (G := True) (c' := (5, [some (.ref 0), some (.int a1), some (.int a2)], [.int a1, .ref 7], M)) (by decide +kernel) rfl trivial ?_
  refine WP.call (.invokevirtual 177, 3, (45, 2), .retAddr 1) (by decide +kernel) rfl (sp_Bike_hasPiece (d := d + 4) (by decide) h (fun r1 h => ?_))
  show WP (Ct (d + 6)) 75 Post (8, [some (.ref 0), some (.int a1), some (.int a2)], [.int r1], M)
  refine WP.br (.ifCond .ne 6, 3, (14, 0), .null) (by decide +kernel) rfl (fun c2 => ?_) (fun c2 => ?_)
  · replace h := h.2 c2
    refine WP.blk [(.iload_n 2, 1, (0, 0), .null)] (G := True) (c' := (15, [some (.ref 0), some (.int a1), some (.int a2)], [.int a2], M)) (by decide +kernel) rfl trivial ?_
    by_cases e3 : a2 = 0
    · refine WP.sw (.tableswitch 68 0 2 #[25, 35, 44], 25, (0, 0), .null) 40 (by decide +kernel) (Or.inl ⟨_, _, _, _, rfl⟩) (by rw [e3]; decide) ?_
      replace h := h.1 e3
      refine WP.blk [(.aload_n 0, 1, (0, 0), .null), (.getfield 26, 3, (6, 2), .null), (.getfield 180, 3, (1, 13), .null), (.iload_n 1, 1, (0, 0), .null), (.iaload, 1, (0, 0), .null)] (G := vp_in a1 6 ∧ True) (c' := (49, [some (.ref 0), some (.int a1), some (.int a2)], [.int (M 12 (Int32.toNatClampNeg a1))], M)) (by decide +kernel) rfl ⟨h.1, trivial⟩ ?_
      replace h := h.2
      exact WP.ret (.ireturn, 1, (0, 0), .null) (rk := 1) (by decide +kernel) (by decide +kernel) rfl trivial (hΦ _ h)
    replace h := h.2 e3
    by_cases e4 : a2 = 1
    · refine WP.sw (.tableswitch 68 0 2 #[25, 35, 44], 25, (0, 0), .null) 50 (by decide +kernel) (Or.inl ⟨_, _, _, _, rfl⟩) (by rw [e4]; decide) ?_
      replace h := h.1 e4
      refine WP.blk [(.aload_n 0, 1, (0, 0), .null), (.getfield 26, 3, (6, 2), .null), (.iload_n 1, 1, (0, 0), .null)] (G := True) (c' := (55, [some (.ref 0), some (.int a1), some (.int a2)], [.int a1, .ref 7], M)) (by decide +kernel) rfl trivial ?_
      refine WP.call (.invokevirtual 206, 3, (76, 2), .retAddr 1) (by decide +kernel) rfl (sp_Bike_gearsBorne (d := d + 0) (by decide) h (fun r5 h => ?_))
      show WP (Ct (d + 6)) 75 Post (58, [some (.ref 0), some (.int a1), some (.int a2)], [.int r5], M)
      exact WP.ret (.ireturn, 1, (0, 0), .null) (rk := 1) (by decide +kernel) (by decide +kernel) rfl trivial (hΦ _ h)
    replace h := h.2 e4
    by_cases e6 : a2 = 2
    · refine WP.sw (.tableswitch 68 0 2 #[25, 35, 44], 25, (0, 0), .null) 59 (by decide +kernel) (Or.inl ⟨_, _, _, _, rfl⟩) (by rw [e6]; decide) ?_
      replace h := h.1 e6
      refine WP.blk [(.aload_n 0, 1, (0, 0), .null), (.getfield 26, 3, (6, 2), .null), (.aload_n 0, 1, (0, 0), .null), (.getfield 26, 3, (6, 2), .null)] (G := True) (c' := (67, [some (.ref 0), some (.int a1), some (.int a2)], [.ref 7, .ref 7], M)) (by decide +kernel) rfl trivial ?_
      refine WP.call (.invokevirtual 209, 3, (46, 1), .retAddr 1) (by decide +kernel) rfl (sp_Bike_gear (d := d + 5) (by decide) h (fun r7 h => ?_))
      show WP (Ct (d + 6)) 75 Post (70, [some (.ref 0), some (.int a1), some (.int a2)], [.int r7, .ref 7], M)
      refine WP.blk [(.aload_n 0, 1, (0, 0), .null), (.getfield 26, 3, (6, 2), .null), (.getfield 180, 3, (1, 13), .null), (.iload_n 1, 1, (0, 0), .null), (.iaload, 1, (0, 0), .null)] (G := vp_in a1 6 ∧ True) (c' := (79, [some (.ref 0), some (.int a1), some (.int a2)], [.int (M 12 (Int32.toNatClampNeg a1)), .int r7, .ref 7], M)) (by decide +kernel) rfl ⟨h.1, trivial⟩ ?_
      replace h := h.2
      refine WP.call (.invokevirtual 212, 3, (51, 3), .retAddr 1) (by decide +kernel) rfl (sp_Bike_loadOf (d := d + 2) (by decide) h (fun r8 h => ?_))
      show WP (Ct (d + 6)) 75 Post (82, [some (.ref 0), some (.int a1), some (.int a2)], [.int r8], M)
      exact WP.ret (.ireturn, 1, (0, 0), .null) (rk := 1) (by decide +kernel) (by decide +kernel) rfl trivial (hΦ _ h)
    replace h := h.2 e6
    refine WP.sw (.tableswitch 68 0 2 #[25, 35, 44], 25, (0, 0), .null) 83 (by decide +kernel) (Or.inl ⟨_, _, _, _, rfl⟩) (by rw [sw_out (by have := ne_toInt e3; rw [show (0 : Int32).toInt = 0 from by decide] at this; have := ne_toInt e4; rw [show (1 : Int32).toInt = 1 from by decide] at this; have := ne_toInt e6; rw [show (2 : Int32).toInt = 2 from by decide] at this; omega)]; rfl) ?_
    refine WP.blk [(.ldc 73, 2, (0, 0), .int (-1000001))] (G := True) (c' := (85, [some (.ref 0), some (.int a1), some (.int a2)], [.int (-1000001)], M)) (by decide +kernel) rfl trivial ?_
    exact WP.ret (.ireturn, 1, (0, 0), .null) (rk := 1) (by decide +kernel) (by decide +kernel) rfl trivial (hΦ _ h)
  · replace h := h.1 (Classical.not_not.mp c2)
    refine WP.blk [(.ldc 73, 2, (0, 0), .int (-1000001))] (G := True) (c' := (13, [some (.ref 0), some (.int a1), some (.int a2)], [.int (-1000001)], M)) (by decide +kernel) rfl trivial ?_
    exact WP.ret (.ireturn, 1, (0, 0), .null) (rk := 1) (by decide +kernel) (by decide +kernel) rfl trivial (hΦ _ h)
/-- GearRoad.load(II)I -/
def S_load (M : Mm) (a1 : Int32) (a2 : Int32) (Φ : Int32 → Prop) : Prop := S_Bike_hasGear 7 M a1 (fun r1 => ((r1 = 0 → Φ (-1000001)) ∧ (¬ (r1 = 0) → S_within M a2 0 9 (fun r3 => ((r3 = 0 → Φ (-1000001)) ∧ (¬ (r3 = 0) → S_Bike_loadOf 7 M a1 a2 (fun r5 => Φ r5)))))))
set_option maxRecDepth 100000 in
set_option maxHeartbeats 4000000 in
theorem sp_load {d : Nat} {Post : Option Value → Mm → Prop} {M : Mm} {a1 : Int32} {a2 : Int32} {Φ : Int32 → Prop} (h : S_load M a1 a2 Φ) (hΦ : ∀ r, Φ r → Post (some (.int r)) M) : Ct (d + 5) 77 [.ref 0, .int a1, .int a2] M Post := by
  refine Ct.go (n := 3) (E := [some (.ref 0), some (.int a1), some (.int a2)]) (by decide +kernel) (by simp [Value.category]) rfl ?_
  refine WP.blk [(.aload_n 0, 1, (0, 0), .null), (.getfield 26, 3, (6, 2), .null), (.iload_n 1, 1, (0, 0), .null)] (G := True) (c' := (5, [some (.ref 0), some (.int a1), some (.int a2)], [.int a1, .ref 7], M)) (by decide +kernel) rfl trivial ?_
  refine WP.call (.invokevirtual 216, 3, (48, 2), .retAddr 1) (by decide +kernel) rfl (sp_Bike_hasGear (d := d + 1) (by decide) h (fun r1 h => ?_))
  show WP (Ct (d + 4)) 77 Post (8, [some (.ref 0), some (.int a1), some (.int a2)], [.int r1], M)
  refine WP.br (.ifCond .eq 13, 3, (21, 0), .null) (by decide +kernel) rfl (fun c2 => ?_) (fun c2 => ?_)
  · replace h := h.1 c2
    refine WP.blk [(.ldc 73, 2, (0, 0), .int (-1000001))] (G := True) (c' := (23, [some (.ref 0), some (.int a1), some (.int a2)], [.int (-1000001)], M)) (by decide +kernel) rfl trivial ?_
    exact WP.ret (.ireturn, 1, (0, 0), .null) (rk := 1) (by decide +kernel) (by decide +kernel) rfl trivial (hΦ _ h)
  · replace h := h.2 c2
    refine WP.blk [(.iload_n 2, 1, (0, 0), .null), (.iconst 0, 1, (0, 0), .int 0), (.bipush 9, 2, (0, 0), .int 9)] (G := True) (c' := (15, [some (.ref 0), some (.int a1), some (.int a2)], [.int 9, .int 0, .int a2], M)) (by decide +kernel) rfl trivial ?_
    refine WP.call (.invokestatic 69, 3, (10, 3), .null) (by decide +kernel) rfl (sp_within (d := d + 3) h (fun r3 h => ?_))
    show WP (Ct (d + 4)) 77 Post (18, [some (.ref 0), some (.int a1), some (.int a2)], [.int r3], M)
    refine WP.br (.ifCond .ne 6, 3, (24, 0), .null) (by decide +kernel) rfl (fun c4 => ?_) (fun c4 => ?_)
    · replace h := h.2 c4
      refine WP.blk [(.aload_n 0, 1, (0, 0), .null), (.getfield 26, 3, (6, 2), .null), (.iload_n 1, 1, (0, 0), .null), (.iload_n 2, 1, (0, 0), .null)] (G := True) (c' := (30, [some (.ref 0), some (.int a1), some (.int a2)], [.int a2, .int a1, .ref 7], M)) (by decide +kernel) rfl trivial ?_
      refine WP.call (.invokevirtual 212, 3, (51, 3), .retAddr 1) (by decide +kernel) rfl (sp_Bike_loadOf (d := d + 0) (by decide) h (fun r5 h => ?_))
      show WP (Ct (d + 4)) 77 Post (33, [some (.ref 0), some (.int a1), some (.int a2)], [.int r5], M)
      exact WP.ret (.ireturn, 1, (0, 0), .null) (rk := 1) (by decide +kernel) (by decide +kernel) rfl trivial (hΦ _ h)
    · replace h := h.1 (Classical.not_not.mp c4)
      refine WP.blk [(.ldc 73, 2, (0, 0), .int (-1000001))] (G := True) (c' := (23, [some (.ref 0), some (.int a1), some (.int a2)], [.int (-1000001)], M)) (by decide +kernel) rfl trivial ?_
      exact WP.ret (.ireturn, 1, (0, 0), .null) (rk := 1) (by decide +kernel) (by decide +kernel) rfl trivial (hΦ _ h)
/-- GearRoad.rounds(I)I -/
def S_rounds (M : Mm) (a1 : Int32) (Φ : Int32 → Prop) : Prop := S_Bike_hasGear 7 M a1 (fun r1 => ((r1 = 0 → Φ (-1000001)) ∧ (¬ (r1 = 0) → S_Bike_turnsOf 7 M a1 (fun r3 => Φ r3))))
set_option maxRecDepth 100000 in
set_option maxHeartbeats 4000000 in
theorem sp_rounds {d : Nat} {Post : Option Value → Mm → Prop} {M : Mm} {a1 : Int32} {Φ : Int32 → Prop} (h : S_rounds M a1 Φ) (hΦ : ∀ r, Φ r → Post (some (.int r)) M) : Ct (d + 5) 78 [.ref 0, .int a1] M Post := by
  refine Ct.go (n := 2) (E := [some (.ref 0), some (.int a1)]) (by decide +kernel) (by simp [Value.category]) rfl ?_
  refine WP.blk [(.aload_n 0, 1, (0, 0), .null), (.getfield 26, 3, (6, 2), .null), (.iload_n 1, 1, (0, 0), .null)] (G := True) (c' := (5, [some (.ref 0), some (.int a1)], [.int a1, .ref 7], M)) (by decide +kernel) rfl trivial ?_
  refine WP.call (.invokevirtual 216, 3, (48, 2), .retAddr 1) (by decide +kernel) rfl (sp_Bike_hasGear (d := d + 1) (by decide) h (fun r1 h => ?_))
  show WP (Ct (d + 4)) 78 Post (8, [some (.ref 0), some (.int a1)], [.int r1], M)
  refine WP.br (.ifCond .eq 14, 3, (22, 0), .null) (by decide +kernel) rfl (fun c2 => ?_) (fun c2 => ?_)
  · replace h := h.1 c2
    refine WP.blk [(.ldc 73, 2, (0, 0), .int (-1000001))] (G := True) (c' := (24, [some (.ref 0), some (.int a1)], [.int (-1000001)], M)) (by decide +kernel) rfl trivial ?_
    exact WP.ret (.ireturn, 1, (0, 0), .null) (rk := 1) (by decide +kernel) (by decide +kernel) rfl trivial (hΦ _ h)
  · replace h := h.2 c2
    refine WP.blk [(.aload_n 0, 1, (0, 0), .null), (.getfield 26, 3, (6, 2), .null), (.iload_n 1, 1, (0, 0), .null)] (G := True) (c' := (16, [some (.ref 0), some (.int a1)], [.int a1, .ref 7], M)) (by decide +kernel) rfl trivial ?_
    refine WP.call (.invokevirtual 219, 3, (56, 2), .retAddr 1) (by decide +kernel) rfl (sp_Bike_turnsOf (d := d + 0) (by decide) h (fun r3 h => ?_))
    show WP (Ct (d + 4)) 78 Post (19, [some (.ref 0), some (.int a1)], [.int r3], M)
    refine WP.blk [(.goto 5, 3, (24, 0), .null)] (G := True) (c' := (24, [some (.ref 0), some (.int a1)], [.int r3], M)) (by decide +kernel) rfl trivial ?_
    exact WP.ret (.ireturn, 1, (0, 0), .null) (rk := 1) (by decide +kernel) (by decide +kernel) rfl trivial (hΦ _ h)
/-- GearRoad.cost(II)I -/
def S_cost (M : Mm) (a1 : Int32) (a2 : Int32) (Φ : Int32 → Prop) : Prop := S_Bike_hasGear 7 M a1 (fun r1 => ((r1 = 0 → Φ (-1000001)) ∧ (¬ (r1 = 0) → S_Bike_hasGear 7 M a2 (fun r3 => ((r3 = 0 → Φ (-1000001)) ∧ (¬ (r3 = 0) → S_Bike_shiftCost 7 M a1 a2 (M 7 7) (fun r5 => Φ r5)))))))
set_option maxRecDepth 100000 in
set_option maxHeartbeats 4000000 in
theorem sp_cost {d : Nat} {Post : Option Value → Mm → Prop} {M : Mm} {a1 : Int32} {a2 : Int32} {Φ : Int32 → Prop} (h : S_cost M a1 a2 Φ) (hΦ : ∀ r, Φ r → Post (some (.int r)) M) : Ct (d + 4) 79 [.ref 0, .int a1, .int a2] M Post := by
  refine Ct.go (n := 3) (E := [some (.ref 0), some (.int a1), some (.int a2)]) (by decide +kernel) (by simp [Value.category]) rfl ?_
  refine WP.blk [(.aload_n 0, 1, (0, 0), .null), (.getfield 26, 3, (6, 2), .null), (.iload_n 1, 1, (0, 0), .null)] (G := True) (c' := (5, [some (.ref 0), some (.int a1), some (.int a2)], [.int a1, .ref 7], M)) (by decide +kernel) rfl trivial ?_
  refine WP.call (.invokevirtual 216, 3, (48, 2), .retAddr 1) (by decide +kernel) rfl (sp_Bike_hasGear (d := d + 0) (by decide) h (fun r1 h => ?_))
  show WP (Ct (d + 3)) 79 Post (8, [some (.ref 0), some (.int a1), some (.int a2)], [.int r1], M)
  refine WP.br (.ifCond .eq 14, 3, (22, 0), .null) (by decide +kernel) rfl (fun c2 => ?_) (fun c2 => ?_)
  · replace h := h.1 c2
    refine WP.blk [(.ldc 73, 2, (0, 0), .int (-1000001))] (G := True) (c' := (24, [some (.ref 0), some (.int a1), some (.int a2)], [.int (-1000001)], M)) (by decide +kernel) rfl trivial ?_
    exact WP.ret (.ireturn, 1, (0, 0), .null) (rk := 1) (by decide +kernel) (by decide +kernel) rfl trivial (hΦ _ h)
  · replace h := h.2 c2
    refine WP.blk [(.aload_n 0, 1, (0, 0), .null), (.getfield 26, 3, (6, 2), .null), (.iload_n 2, 1, (0, 0), .null)] (G := True) (c' := (16, [some (.ref 0), some (.int a1), some (.int a2)], [.int a2, .ref 7], M)) (by decide +kernel) rfl trivial ?_
    refine WP.call (.invokevirtual 216, 3, (48, 2), .retAddr 1) (by decide +kernel) rfl (sp_Bike_hasGear (d := d + 0) (by decide) h (fun r3 h => ?_))
    show WP (Ct (d + 3)) 79 Post (19, [some (.ref 0), some (.int a1), some (.int a2)], [.int r3], M)
    refine WP.br (.ifCond .ne 6, 3, (25, 0), .null) (by decide +kernel) rfl (fun c4 => ?_) (fun c4 => ?_)
    · replace h := h.2 c4
      refine WP.blk [(.aload_n 0, 1, (0, 0), .null), (.getfield 26, 3, (6, 2), .null), (.iload_n 1, 1, (0, 0), .null), (.iload_n 2, 1, (0, 0), .null), (.aload_n 0, 1, (0, 0), .null), (.getfield 26, 3, (6, 2), .null), (.getfield 171, 3, (1, 7), .null)] (G := True) (c' := (38, [some (.ref 0), some (.int a1), some (.int a2)], [.int (M 7 7), .int a2, .int a1, .ref 7], M)) (by decide +kernel) rfl trivial ?_
      refine WP.call (.invokevirtual 222, 3, (80, 4), .retAddr 1) (by decide +kernel) rfl (sp_Bike_shiftCost (d := d + 0) (by decide) h (fun r5 h => ?_))
      show WP (Ct (d + 3)) 79 Post (41, [some (.ref 0), some (.int a1), some (.int a2)], [.int r5], M)
      exact WP.ret (.ireturn, 1, (0, 0), .null) (rk := 1) (by decide +kernel) (by decide +kernel) rfl trivial (hΦ _ h)
    · replace h := h.1 (Classical.not_not.mp c4)
      refine WP.blk [(.ldc 73, 2, (0, 0), .int (-1000001))] (G := True) (c' := (24, [some (.ref 0), some (.int a1), some (.int a2)], [.int (-1000001)], M)) (by decide +kernel) rfl trivial ?_
      exact WP.ret (.ireturn, 1, (0, 0), .null) (rk := 1) (by decide +kernel) (by decide +kernel) rfl trivial (hΦ _ h)
/-- GearRoad.plan(I)I -/
def S_plan (M : Mm) (a1 : Int32) (Φ : Int32 → Mm → Prop) : Prop := (((M 7 0) = 0 → Φ (-1000002) M) ∧ (¬ ((M 7 0) = 0) → (((-1) ≤ a1 → S_Plan_foreseeTurns M (fun M3 => ((a1 = (-1) → S_Plan_fewestTurns M3 (fun r6 => Φ r6 M3)) ∧ (¬ (a1 = (-1)) → S_Plan_gearAhead M3 a1 (fun r5 => Φ r5 M3))))) ∧ (¬ ((-1) ≤ a1) → Φ (-1000001) M))))
set_option maxRecDepth 100000 in
set_option maxHeartbeats 4000000 in
theorem sp_plan {d : Nat} {Post : Option Value → Mm → Prop} {M : Mm} {a1 : Int32} {Φ : Int32 → Mm → Prop} (h : S_plan M a1 Φ) (hΦ : ∀ r M1, Φ r M1 → Post (some (.int r)) M1) : Ct (d + 8) 85 [.ref 0, .int a1] M Post := by
  refine Ct.go (n := 2) (E := [some (.ref 0), some (.int a1)]) (by decide +kernel) (by simp [Value.category]) rfl ?_
  refine WP.blk [(.aload_n 0, 1, (0, 0), .null), (.getfield 26, 3, (6, 2), .null), (.getfield 134, 3, (1, 0), .null)] (G := True) (c' := (7, [some (.ref 0), some (.int a1)], [.int (M 7 0)], M)) (by decide +kernel) rfl trivial ?_
  refine WP.br (.ifCond .ne 6, 3, (13, 0), .null) (by decide +kernel) rfl (fun c1 => ?_) (fun c1 => ?_)
  · replace h := h.2 c1
    refine WP.blk [(.iload_n 1, 1, (0, 0), .null), (.iconst (-1), 1, (0, 0), .int (-1))] (G := True) (c' := (15, [some (.ref 0), some (.int a1)], [.int (-1), .int a1], M)) (by decide +kernel) rfl trivial ?_
    refine WP.br (.if_icmp .ge 6, 3, (21, 0), .null) (by decide +kernel) rfl (fun c2 => ?_) (fun c2 => ?_)
    · replace h := h.1 c2
      refine WP.blk [(.aload_n 0, 1, (0, 0), .null), (.getfield 47, 3, (6, 6), .null), (.aload_n 0, 1, (0, 0), .null), (.getfield 26, 3, (6, 2), .null)] (G := True) (c' := (29, [some (.ref 0), some (.int a1)], [.ref 7, .ref 34], M)) (by decide +kernel) rfl trivial ?_
      refine WP.call (.invokevirtual 225, 3, (86, 2), .retAddr 2) (by decide +kernel) rfl (sp_Plan_foreseeTurns (d := d + 0) h (fun M3 h => ?_))
      show WP (Ct (d + 7)) 85 Post (32, [some (.ref 0), some (.int a1)], [], M3)
      refine WP.blk [(.iload_n 1, 1, (0, 0), .null), (.iconst (-1), 1, (0, 0), .int (-1))] (G := True) (c' := (34, [some (.ref 0), some (.int a1)], [.int (-1), .int a1], M3)) (by decide +kernel) rfl trivial ?_
      refine WP.br (.if_icmp .ne 17, 3, (51, 0), .null) (by decide +kernel) rfl (fun c4 => ?_) (fun c4 => ?_)
      · replace h := h.2 c4
        refine WP.blk [(.aload_n 0, 1, (0, 0), .null), (.getfield 47, 3, (6, 6), .null), (.aload_n 0, 1, (0, 0), .null), (.getfield 26, 3, (6, 2), .null), (.iload_n 1, 1, (0, 0), .null)] (G := True) (c' := (60, [some (.ref 0), some (.int a1)], [.int a1, .ref 7, .ref 34], M3)) (by decide +kernel) rfl trivial ?_
        refine WP.call (.invokevirtual 232, 3, (94, 3), .retAddr 2) (by decide +kernel) rfl (sp_Plan_gearAhead (d := d + 2) h (fun r5 h => ?_))
        show WP (Ct (d + 7)) 85 Post (63, [some (.ref 0), some (.int a1)], [.int r5], M3)
        exact WP.ret (.ireturn, 1, (0, 0), .null) (rk := 1) (by decide +kernel) (by decide +kernel) rfl trivial (hΦ _ _ h)
      · replace h := h.1 (Classical.not_not.mp c4)
        refine WP.blk [(.aload_n 0, 1, (0, 0), .null), (.getfield 47, 3, (6, 6), .null), (.aload_n 0, 1, (0, 0), .null), (.getfield 26, 3, (6, 2), .null)] (G := True) (c' := (45, [some (.ref 0), some (.int a1)], [.ref 7, .ref 34], M3)) (by decide +kernel) rfl trivial ?_
        refine WP.call (.invokevirtual 228, 3, (93, 2), .retAddr 2) (by decide +kernel) rfl (sp_Plan_fewestTurns (d := d + 1) h (fun r6 h => ?_))
        show WP (Ct (d + 7)) 85 Post (48, [some (.ref 0), some (.int a1)], [.int r6], M3)
        refine WP.blk [(.goto 15, 3, (63, 0), .null)] (G := True) (c' := (63, [some (.ref 0), some (.int a1)], [.int r6], M3)) (by decide +kernel) rfl trivial ?_
        exact WP.ret (.ireturn, 1, (0, 0), .null) (rk := 1) (by decide +kernel) (by decide +kernel) rfl trivial (hΦ _ _ h)
    · replace h := h.2 c2
      refine WP.blk [(.ldc 73, 2, (0, 0), .int (-1000001))] (G := True) (c' := (20, [some (.ref 0), some (.int a1)], [.int (-1000001)], M)) (by decide +kernel) rfl trivial ?_
      exact WP.ret (.ireturn, 1, (0, 0), .null) (rk := 1) (by decide +kernel) (by decide +kernel) rfl trivial (hΦ _ _ h)
  · replace h := h.1 (Classical.not_not.mp c1)
    refine WP.blk [(.ldc 142, 2, (0, 0), .int (-1000002))] (G := True) (c' := (12, [some (.ref 0), some (.int a1)], [.int (-1000002)], M)) (by decide +kernel) rfl trivial ?_
    exact WP.ret (.ireturn, 1, (0, 0), .null) (rk := 1) (by decide +kernel) (by decide +kernel) rfl trivial (hΦ _ _ h)
/-- GearRoad.least()I -/
def S_least (M : Mm) (Φ : Int32 → Mm → Prop) : Prop := (((M 7 0) = 0 → Φ (-1000002) M) ∧ (¬ ((M 7 0) = 0) → S_Plan_leastStrain M (fun r2 M2 => ((r2 ≤ 99 → Φ r2 M2) ∧ (¬ (r2 ≤ 99) → Φ (-1000000) M2)))))
set_option maxRecDepth 100000 in
set_option maxHeartbeats 4000000 in
theorem sp_least {d : Nat} {Post : Option Value → Mm → Prop} {M : Mm} {Φ : Int32 → Mm → Prop} (h : S_least M Φ) (hΦ : ∀ r M1, Φ r M1 → Post (some (.int r)) M1) : Ct (d + 7) 95 [.ref 0] M Post := by
  refine Ct.go (n := 2) (E := [some (.ref 0), none]) (by decide +kernel) (by simp [Value.category]) rfl ?_
  refine WP.blk [(.aload_n 0, 1, (0, 0), .null), (.getfield 26, 3, (6, 2), .null), (.getfield 134, 3, (1, 0), .null)] (G := True) (c' := (7, [some (.ref 0), none], [.int (M 7 0)], M)) (by decide +kernel) rfl trivial ?_
  refine WP.br (.ifCond .ne 6, 3, (13, 0), .null) (by decide +kernel) rfl (fun c1 => ?_) (fun c1 => ?_)
  · replace h := h.2 c1
    refine WP.blk [(.aload_n 0, 1, (0, 0), .null), (.getfield 47, 3, (6, 6), .null), (.aload_n 0, 1, (0, 0), .null), (.getfield 26, 3, (6, 2), .null)] (G := True) (c' := (21, [some (.ref 0), none], [.ref 7, .ref 34], M)) (by decide +kernel) rfl trivial ?_
    refine WP.call (.invokevirtual 236, 3, (96, 2), .retAddr 2) (by decide +kernel) rfl (sp_Plan_leastStrain (d := d + 0) h (fun r2 M2 h => ?_))
    show WP (Ct (d + 6)) 95 Post (24, [some (.ref 0), none], [.int r2], M2)
    refine WP.blk [(.istore_n 1, 1, (0, 0), .null), (.iload_n 1, 1, (0, 0), .null), (.bipush 99, 2, (0, 0), .int 99)] (G := True) (c' := (28, [some (.ref 0), some (.int r2)], [.int 99, .int r2], M2)) (by decide +kernel) rfl trivial ?_
    refine WP.br (.if_icmp .le 8, 3, (36, 0), .null) (by decide +kernel) rfl (fun c3 => ?_) (fun c3 => ?_)
    · replace h := h.1 c3
      refine WP.blk [(.iload_n 1, 1, (0, 0), .null)] (G := True) (c' := (37, [some (.ref 0), some (.int r2)], [.int r2], M2)) (by decide +kernel) rfl trivial ?_
      exact WP.ret (.ireturn, 1, (0, 0), .null) (rk := 1) (by decide +kernel) (by decide +kernel) rfl trivial (hΦ _ _ h)
    · replace h := h.2 c3
      refine WP.blk [(.ldc 239, 2, (0, 0), .int (-1000000)), (.goto 4, 3, (37, 0), .null)] (G := True) (c' := (37, [some (.ref 0), some (.int r2)], [.int (-1000000)], M2)) (by decide +kernel) rfl trivial ?_
      exact WP.ret (.ireturn, 1, (0, 0), .null) (rk := 1) (by decide +kernel) (by decide +kernel) rfl trivial (hΦ _ _ h)
  · replace h := h.1 (Classical.not_not.mp c1)
    refine WP.blk [(.ldc 142, 2, (0, 0), .int (-1000002))] (G := True) (c' := (12, [some (.ref 0), none], [.int (-1000002)], M)) (by decide +kernel) rfl trivial ?_
    exact WP.ret (.ireturn, 1, (0, 0), .null) (rk := 1) (by decide +kernel) (by decide +kernel) rfl trivial (hΦ _ _ h)
/-- GearRoad.rank(II)I -/
def S_rank (M : Mm) (a1 : Int32) (a2 : Int32) (Φ : Int32 → Prop) : Prop := S_Bike_hasGear 7 M a1 (fun r1 => ((r1 = 0 → Φ (-1000001)) ∧ (¬ (r1 = 0) → S_within M a2 0 1 (fun r3 => ((r3 = 0 → Φ (-1000001)) ∧ (¬ (r3 = 0) → ((a2 = 0 → S_Bike_lighterThan 7 M a1 (fun r7 => Φ r7)) ∧ (¬ (a2 = 0) → S_Bike_alike 7 M a1 (fun r6 => Φ r6)))))))))
set_option maxRecDepth 100000 in
set_option maxHeartbeats 4000000 in
theorem sp_rank {d : Nat} {Post : Option Value → Mm → Prop} {M : Mm} {a1 : Int32} {a2 : Int32} {Φ : Int32 → Prop} (h : S_rank M a1 a2 Φ) (hΦ : ∀ r, Φ r → Post (some (.int r)) M) : Ct (d + 5) 100 [.ref 0, .int a1, .int a2] M Post := by
  refine Ct.go (n := 3) (E := [some (.ref 0), some (.int a1), some (.int a2)]) (by decide +kernel) (by simp [Value.category]) rfl ?_
  refine WP.blk [(.aload_n 0, 1, (0, 0), .null), (.getfield 26, 3, (6, 2), .null), (.iload_n 1, 1, (0, 0), .null)] (G := True) (c' := (5, [some (.ref 0), some (.int a1), some (.int a2)], [.int a1, .ref 7], M)) (by decide +kernel) rfl trivial ?_
  refine WP.call (.invokevirtual 216, 3, (48, 2), .retAddr 1) (by decide +kernel) rfl (sp_Bike_hasGear (d := d + 1) (by decide) h (fun r1 h => ?_))
  show WP (Ct (d + 4)) 100 Post (8, [some (.ref 0), some (.int a1), some (.int a2)], [.int r1], M)
  refine WP.br (.ifCond .eq 12, 3, (20, 0), .null) (by decide +kernel) rfl (fun c2 => ?_) (fun c2 => ?_)
  · replace h := h.1 c2
    refine WP.blk [(.ldc 73, 2, (0, 0), .int (-1000001))] (G := True) (c' := (22, [some (.ref 0), some (.int a1), some (.int a2)], [.int (-1000001)], M)) (by decide +kernel) rfl trivial ?_
    exact WP.ret (.ireturn, 1, (0, 0), .null) (rk := 1) (by decide +kernel) (by decide +kernel) rfl trivial (hΦ _ h)
  · replace h := h.2 c2
    refine WP.blk [(.iload_n 2, 1, (0, 0), .null), (.iconst 0, 1, (0, 0), .int 0), (.iconst 1, 1, (0, 0), .int 1)] (G := True) (c' := (14, [some (.ref 0), some (.int a1), some (.int a2)], [.int 1, .int 0, .int a2], M)) (by decide +kernel) rfl trivial ?_
    refine WP.call (.invokestatic 69, 3, (10, 3), .null) (by decide +kernel) rfl (sp_within (d := d + 3) h (fun r3 h => ?_))
    show WP (Ct (d + 4)) 100 Post (17, [some (.ref 0), some (.int a1), some (.int a2)], [.int r3], M)
    refine WP.br (.ifCond .ne 6, 3, (23, 0), .null) (by decide +kernel) rfl (fun c4 => ?_) (fun c4 => ?_)
    · replace h := h.2 c4
      refine WP.blk [(.iload_n 2, 1, (0, 0), .null)] (G := True) (c' := (24, [some (.ref 0), some (.int a1), some (.int a2)], [.int a2], M)) (by decide +kernel) rfl trivial ?_
      refine WP.br (.ifCond .ne 14, 3, (38, 0), .null) (by decide +kernel) rfl (fun c5 => ?_) (fun c5 => ?_)
      · replace h := h.2 c5
        refine WP.blk [(.aload_n 0, 1, (0, 0), .null), (.getfield 26, 3, (6, 2), .null), (.iload_n 1, 1, (0, 0), .null)] (G := True) (c' := (43, [some (.ref 0), some (.int a1), some (.int a2)], [.int a1, .ref 7], M)) (by decide +kernel) rfl trivial ?_
        refine WP.call (.invokevirtual 243, 3, (103, 2), .retAddr 1) (by decide +kernel) rfl (sp_Bike_alike (d := d + 0) (by decide) h (fun r6 h => ?_))
        show WP (Ct (d + 4)) 100 Post (46, [some (.ref 0), some (.int a1), some (.int a2)], [.int r6], M)
        exact WP.ret (.ireturn, 1, (0, 0), .null) (rk := 1) (by decide +kernel) (by decide +kernel) rfl trivial (hΦ _ h)
      · replace h := h.1 (Classical.not_not.mp c5)
        refine WP.blk [(.aload_n 0, 1, (0, 0), .null), (.getfield 26, 3, (6, 2), .null), (.iload_n 1, 1, (0, 0), .null)] (G := True) (c' := (32, [some (.ref 0), some (.int a1), some (.int a2)], [.int a1, .ref 7], M)) (by decide +kernel) rfl trivial ?_
        refine WP.call (.invokevirtual 240, 3, (101, 2), .retAddr 1) (by decide +kernel) rfl (sp_Bike_lighterThan (d := d + 0) (by decide) h (fun r7 h => ?_))
        show WP (Ct (d + 4)) 100 Post (35, [some (.ref 0), some (.int a1), some (.int a2)], [.int r7], M)
        refine WP.blk [(.goto 11, 3, (46, 0), .null)] (G := True) (c' := (46, [some (.ref 0), some (.int a1), some (.int a2)], [.int r7], M)) (by decide +kernel) rfl trivial ?_
        exact WP.ret (.ireturn, 1, (0, 0), .null) (rk := 1) (by decide +kernel) (by decide +kernel) rfl trivial (hΦ _ h)
    · replace h := h.1 (Classical.not_not.mp c4)
      refine WP.blk [(.ldc 73, 2, (0, 0), .int (-1000001))] (G := True) (c' := (22, [some (.ref 0), some (.int a1), some (.int a2)], [.int (-1000001)], M)) (by decide +kernel) rfl trivial ?_
      exact WP.ret (.ireturn, 1, (0, 0), .null) (rk := 1) (by decide +kernel) (by decide +kernel) rfl trivial (hΦ _ h)
/-- GearRoad.share(II)I -/
def S_share (M : Mm) (a1 : Int32) (a2 : Int32) (Φ : Int32 → Prop) : Prop := S_Bike_hasCog 7 M a1 (fun r1 => ((r1 = 0 → Φ (-1000001)) ∧ (¬ (r1 = 0) → S_within M a2 0 999 (fun r3 => ((r3 = 0 → Φ (-1000001)) ∧ (¬ (r3 = 0) → S_Bike_shareOf 7 M a1 a2 (fun r5 => Φ r5)))))))
set_option maxRecDepth 100000 in
set_option maxHeartbeats 4000000 in
theorem sp_share {d : Nat} {Post : Option Value → Mm → Prop} {M : Mm} {a1 : Int32} {a2 : Int32} {Φ : Int32 → Prop} (h : S_share M a1 a2 Φ) (hΦ : ∀ r, Φ r → Post (some (.int r)) M) : Ct (d + 3) 104 [.ref 0, .int a1, .int a2] M Post := by
  refine Ct.go (n := 3) (E := [some (.ref 0), some (.int a1), some (.int a2)]) (by decide +kernel) (by simp [Value.category]) rfl ?_
  refine WP.blk [(.aload_n 0, 1, (0, 0), .null), (.getfield 26, 3, (6, 2), .null), (.iload_n 1, 1, (0, 0), .null)] (G := True) (c' := (5, [some (.ref 0), some (.int a1), some (.int a2)], [.int a1, .ref 7], M)) (by decide +kernel) rfl trivial ?_
  refine WP.call (.invokevirtual 187, 3, (50, 2), .retAddr 1) (by decide +kernel) rfl (sp_Bike_hasCog (d := d + 0) (by decide) h (fun r1 h => ?_))
  show WP (Ct (d + 2)) 104 Post (8, [some (.ref 0), some (.int a1), some (.int a2)], [.int r1], M)
  refine WP.br (.ifCond .eq 14, 3, (22, 0), .null) (by decide +kernel) rfl (fun c2 => ?_) (fun c2 => ?_)
  · replace h := h.1 c2
    refine WP.blk [(.ldc 73, 2, (0, 0), .int (-1000001))] (G := True) (c' := (24, [some (.ref 0), some (.int a1), some (.int a2)], [.int (-1000001)], M)) (by decide +kernel) rfl trivial ?_
    exact WP.ret (.ireturn, 1, (0, 0), .null) (rk := 1) (by decide +kernel) (by decide +kernel) rfl trivial (hΦ _ h)
  · replace h := h.2 c2
    refine WP.blk [(.iload_n 2, 1, (0, 0), .null), (.iconst 0, 1, (0, 0), .int 0), (.sipush 999, 3, (0, 0), .int 999)] (G := True) (c' := (16, [some (.ref 0), some (.int a1), some (.int a2)], [.int 999, .int 0, .int a2], M)) (by decide +kernel) rfl trivial ?_
    refine WP.call (.invokestatic 69, 3, (10, 3), .null) (by decide +kernel) rfl (sp_within (d := d + 1) h (fun r3 h => ?_))
    show WP (Ct (d + 2)) 104 Post (19, [some (.ref 0), some (.int a1), some (.int a2)], [.int r3], M)
    refine WP.br (.ifCond .ne 6, 3, (25, 0), .null) (by decide +kernel) rfl (fun c4 => ?_) (fun c4 => ?_)
    · replace h := h.2 c4
      refine WP.blk [(.aload_n 0, 1, (0, 0), .null), (.getfield 26, 3, (6, 2), .null), (.iload_n 1, 1, (0, 0), .null), (.iload_n 2, 1, (0, 0), .null)] (G := True) (c' := (31, [some (.ref 0), some (.int a1), some (.int a2)], [.int a2, .int a1, .ref 7], M)) (by decide +kernel) rfl trivial ?_
      refine WP.call (.invokevirtual 246, 3, (105, 3), .retAddr 1) (by decide +kernel) rfl (sp_Bike_shareOf (d := d + 1) (by decide) h (fun r5 h => ?_))
      show WP (Ct (d + 2)) 104 Post (34, [some (.ref 0), some (.int a1), some (.int a2)], [.int r5], M)
      exact WP.ret (.ireturn, 1, (0, 0), .null) (rk := 1) (by decide +kernel) (by decide +kernel) rfl trivial (hΦ _ h)
    · replace h := h.1 (Classical.not_not.mp c4)
      refine WP.blk [(.ldc 73, 2, (0, 0), .int (-1000001))] (G := True) (c' := (24, [some (.ref 0), some (.int a1), some (.int a2)], [.int (-1000001)], M)) (by decide +kernel) rfl trivial ?_
      exact WP.ret (.ireturn, 1, (0, 0), .null) (rk := 1) (by decide +kernel) (by decide +kernel) rfl trivial (hΦ _ h)
/-- GearRoad.tells(IIIII)Z -/
def D_tells_3 (M : Mm) (Φ : Int32 → Prop) (rec_3 : Int32 × Int32 × Int32 × Int32 × Int32 × Int32 → Prop) : Int32 × Int32 × Int32 × Int32 × Int32 × Int32 → Prop
  | (x1, x2, x3, x4, x5, x6) => ((x2 ≤ x6 → Φ 1) ∧ (¬ (x2 ≤ x6) → vp_in (x1 + x6) 320 ∧ S_Bike_turnsAhead 7 M x6 x3 x4 x5 (fun r8 => (((M 4 (Int32.toNatClampNeg (x1 + x6))) = r8 → rec_3 (x1, x2, x3, x4, x5, (x6 + 1))) ∧ (¬ ((M 4 (Int32.toNatClampNeg (x1 + x6))) = r8) → Φ 0)))))
def S_tells (M : Mm) (a1 : Int32) (a2 : Int32) (a3 : Int32) (a4 : Int32) (a5 : Int32) (Φ : Int32 → Prop) : Prop := ∃ n, lp (D_tells_3 M Φ) n (a1, a2, a3, a4, a5, 0)
set_option maxRecDepth 100000 in
set_option maxHeartbeats 4000000 in
theorem L_tells_3 {d : Nat} {Post : Option Value → Mm → Prop} {M : Mm} {rec_3 : Int32 × Int32 × Int32 × Int32 × Int32 × Int32 → Prop} {Φ : Int32 → Prop} (hΦ : ∀ r, Φ r → Post (some (.int r)) M) (hrec_3 : ∀ (x1 : Int32) (x2 : Int32) (x3 : Int32) (x4 : Int32) (x5 : Int32) (x6 : Int32), rec_3 (x1, x2, x3, x4, x5, x6) → WP (Ct (d + 3)) 108 Post (3, [some (.ref 0), some (.int x1), some (.int x2), some (.int x3), some (.int x4), some (.int x5), some (.int x6)], [], M)) : ∀ (x1 : Int32) (x2 : Int32) (x3 : Int32) (x4 : Int32) (x5 : Int32) (x6 : Int32), D_tells_3 M Φ rec_3 (x1, x2, x3, x4, x5, x6) → WP (Ct (d + 3)) 108 Post (3, [some (.ref 0), some (.int x1), some (.int x2), some (.int x3), some (.int x4), some (.int x5), some (.int x6)], [], M) := by
  intro x1 x2 x3 x4 x5 x6 h
  replace h : ((x2 ≤ x6 → Φ 1) ∧ (¬ (x2 ≤ x6) → vp_in (x1 + x6) 320 ∧ S_Bike_turnsAhead 7 M x6 x3 x4 x5 (fun r8 => (((M 4 (Int32.toNatClampNeg (x1 + x6))) = r8 → rec_3 (x1, x2, x3, x4, x5, (x6 + 1))) ∧ (¬ ((M 4 (Int32.toNatClampNeg (x1 + x6))) = r8) → Φ 0))))) := h
  refine WP.blk [(.iload 6, 2, (0, 0), .null), (.iload_n 2, 1, (0, 0), .null)] (G := True) (c' := (6, [some (.ref 0), some (.int x1), some (.int x2), some (.int x3), some (.int x4), some (.int x5), some (.int x6)], [.int x2, .int x6], M)) (by decide +kernel) rfl trivial ?_
  refine WP.br (.if_icmp .ge 40, 3, (46, 0), .null) (by decide +kernel) rfl (fun c7 => ?_) (fun c7 => ?_)
  · replace h := h.1 c7
    refine WP.blk [(.iconst 1, 1, (0, 0), .int 1)] (G := True) (c' := (47, [some (.ref 0), some (.int x1), some (.int x2), some (.int x3), some (.int x4), some (.int x5), some (.int x6)], [.int 1], M)) (by decide +kernel) rfl trivial ?_
    exact WP.ret (.ireturn, 1, (0, 0), .null) (rk := 2) (by decide +kernel) (by decide +kernel) rfl (by decide) (hΦ _ h)
  · replace h := h.2 c7
    refine WP.blk [(.aload_n 0, 1, (0, 0), .null), (.getfield 12, 3, (6, 0), .null), (.getfield 315, 3, (3, 2), .null), (.iload_n 1, 1, (0, 0), .null), (.iload 6, 2, (0, 0), .null), (.iadd, 1, (0, 0), .null), (.iaload, 1, (0, 0), .null), (.aload_n 0, 1, (0, 0), .null), (.getfield 26, 3, (6, 2), .null), (.iload 6, 2, (0, 0), .null), (.iload_n 3, 1, (0, 0), .null), (.iload 4, 2, (0, 0), .null), (.iload 5, 2, (0, 0), .null)] (G := vp_in (x1 + x6) 320 ∧ True) (c' := (32, [some (.ref 0), some (.int x1), some (.int x2), some (.int x3), some (.int x4), some (.int x5), some (.int x6)], [.int x5, .int x4, .int x3, .int x6, .ref 7, .int (M 4 (Int32.toNatClampNeg (x1 + x6)))], M)) (by decide +kernel) rfl ⟨h.1, trivial⟩ ?_
    replace h := h.2
    refine WP.call (.invokevirtual 318, 3, (109, 5), .retAddr 1) (by decide +kernel) rfl (sp_Bike_turnsAhead (d := d + 0) (by decide) h (fun r8 h => ?_))
    show WP (Ct (d + 3)) 108 Post (35, [some (.ref 0), some (.int x1), some (.int x2), some (.int x3), some (.int x4), some (.int x5), some (.int x6)], [.int r8, .int (M 4 (Int32.toNatClampNeg (x1 + x6)))], M)
    refine WP.br (.if_icmp .eq 5, 3, (40, 0), .null) (by decide +kernel) rfl (fun c9 => ?_) (fun c9 => ?_)
    · replace h := h.1 c9
      refine WP.blk [(.iinc 6 1, 3, (0, 0), .int 1), (.goto (-40), 3, (3, 0), .null)] (G := True) (c' := (3, [some (.ref 0), some (.int x1), some (.int x2), some (.int x3), some (.int x4), some (.int x5), some (.int (x6 + 1))], [], M)) (by decide +kernel) rfl trivial ?_
      exact hrec_3 _ _ _ _ _ _ h
    · replace h := h.2 c9
      refine WP.blk [(.iconst 0, 1, (0, 0), .int 0)] (G := True) (c' := (39, [some (.ref 0), some (.int x1), some (.int x2), some (.int x3), some (.int x4), some (.int x5), some (.int x6)], [.int 0], M)) (by decide +kernel) rfl trivial ?_
      exact WP.ret (.ireturn, 1, (0, 0), .null) (rk := 2) (by decide +kernel) (by decide +kernel) rfl (by decide) (hΦ _ h)
theorem P_tells_3 {d : Nat} {Post : Option Value → Mm → Prop} {M : Mm} {Φ : Int32 → Prop} (hΦ : ∀ r, Φ r → Post (some (.int r)) M) : ∀ (n : Nat) (x1 : Int32) (x2 : Int32) (x3 : Int32) (x4 : Int32) (x5 : Int32) (x6 : Int32), lp (D_tells_3 M Φ) n (x1, x2, x3, x4, x5, x6) → WP (Ct (d + 3)) 108 Post (3, [some (.ref 0), some (.int x1), some (.int x2), some (.int x3), some (.int x4), some (.int x5), some (.int x6)], [], M)
  | 0, x1, x2, x3, x4, x5, x6, h => absurd h (by simp [lp])
  | n + 1, x1, x2, x3, x4, x5, x6, h => L_tells_3 hΦ (P_tells_3 hΦ n) x1 x2 x3 x4 x5 x6 h
set_option maxRecDepth 100000 in
set_option maxHeartbeats 4000000 in
theorem sp_tells {d : Nat} {Post : Option Value → Mm → Prop} {M : Mm} {a1 : Int32} {a2 : Int32} {a3 : Int32} {a4 : Int32} {a5 : Int32} {Φ : Int32 → Prop} (h : S_tells M a1 a2 a3 a4 a5 Φ) (hΦ : ∀ r, Φ r → Post (some (.int r)) M) : Ct (d + 4) 108 [.ref 0, .int a1, .int a2, .int a3, .int a4, .int a5] M Post := by
  refine Ct.go (n := 7) (E := [some (.ref 0), some (.int a1), some (.int a2), some (.int a3), some (.int a4), some (.int a5), none]) (by decide +kernel) (by simp [Value.category]) rfl ?_
  refine WP.blk [(.iconst 0, 1, (0, 0), .int 0), (.istore 6, 2, (0, 0), .null)] (G := True) (c' := (3, [some (.ref 0), some (.int a1), some (.int a2), some (.int a3), some (.int a4), some (.int a5), some (.int 0)], [], M)) (by decide +kernel) rfl trivial ?_
  obtain ⟨n, h⟩ := h
  exact P_tells_3 hΦ n _ _ _ _ _ _ h
/-- GearRoad.sortsThatFit(II)I -/
def D_sortsThatFit_51 (M : Mm) (Φ : Int32 → Prop) (rec_5 : Int32 × Int32 × Int32 × Int32 → Prop) : Int32 × Int32 × Int32 × Int32 → Prop
  | (x1, x2, x3, x4) => rec_5 (x1, x2, x3, (x4 + 1))
def D_sortsThatFit_5 (M : Mm) (Φ : Int32 → Prop) (rec_5 : Int32 × Int32 × Int32 × Int32 → Prop) : Int32 × Int32 × Int32 × Int32 → Prop
  | (x1, x2, x3, x4) => ((5 < x4 → Φ x3) ∧ (¬ (5 < x4) → vp_in (M 7 6) 6 ∧ S_tells M x1 x2 x4 (M 10 (Int32.toNatClampNeg (M 7 6))) (M 7 4) (fun r6 => ((r6 = 0 → D_sortsThatFit_51 M Φ rec_5 (x1, x2, x3, x4)) ∧ (¬ (r6 = 0) → D_sortsThatFit_51 M Φ rec_5 (x1, x2, (x3 ||| (1 <<< (x4 &&& 31))), x4))))))
def S_sortsThatFit (M : Mm) (a1 : Int32) (a2 : Int32) (Φ : Int32 → Prop) : Prop := ∃ n, lp (D_sortsThatFit_5 M Φ) n (a1, a2, 0, 1)
set_option maxRecDepth 100000 in
set_option maxHeartbeats 4000000 in
theorem L_sortsThatFit_51 {d : Nat} {Post : Option Value → Mm → Prop} {M : Mm} {rec_5 : Int32 × Int32 × Int32 × Int32 → Prop} {Φ : Int32 → Prop} (hΦ : ∀ r, Φ r → Post (some (.int r)) M) (hrec_5 : ∀ (x1 : Int32) (x2 : Int32) (x3 : Int32) (x4 : Int32), rec_5 (x1, x2, x3, x4) → WP (Ct (d + 4)) 107 Post (5, [some (.ref 0), some (.int x1), some (.int x2), some (.int x3), some (.int x4)], [], M)) : ∀ (x1 : Int32) (x2 : Int32) (x3 : Int32) (x4 : Int32), D_sortsThatFit_51 M Φ rec_5 (x1, x2, x3, x4) → WP (Ct (d + 4)) 107 Post (51, [some (.ref 0), some (.int x1), some (.int x2), some (.int x3), some (.int x4)], [], M) := by
  intro x1 x2 x3 x4 h
  replace h : rec_5 (x1, x2, x3, (x4 + 1)) := h
  refine WP.blk [(.iinc 4 1, 3, (0, 0), .int 1), (.goto (-49), 3, (5, 0), .null)] (G := True) (c' := (5, [some (.ref 0), some (.int x1), some (.int x2), some (.int x3), some (.int (x4 + 1))], [], M)) (by decide +kernel) rfl trivial ?_
  exact hrec_5 _ _ _ _ h
set_option maxRecDepth 100000 in
set_option maxHeartbeats 4000000 in
theorem L_sortsThatFit_5 {d : Nat} {Post : Option Value → Mm → Prop} {M : Mm} {rec_5 : Int32 × Int32 × Int32 × Int32 → Prop} {Φ : Int32 → Prop} (hΦ : ∀ r, Φ r → Post (some (.int r)) M) (hrec_5 : ∀ (x1 : Int32) (x2 : Int32) (x3 : Int32) (x4 : Int32), rec_5 (x1, x2, x3, x4) → WP (Ct (d + 4)) 107 Post (5, [some (.ref 0), some (.int x1), some (.int x2), some (.int x3), some (.int x4)], [], M)) : ∀ (x1 : Int32) (x2 : Int32) (x3 : Int32) (x4 : Int32), D_sortsThatFit_5 M Φ rec_5 (x1, x2, x3, x4) → WP (Ct (d + 4)) 107 Post (5, [some (.ref 0), some (.int x1), some (.int x2), some (.int x3), some (.int x4)], [], M) := by
  intro x1 x2 x3 x4 h
  replace h : ((5 < x4 → Φ x3) ∧ (¬ (5 < x4) → vp_in (M 7 6) 6 ∧ S_tells M x1 x2 x4 (M 10 (Int32.toNatClampNeg (M 7 6))) (M 7 4) (fun r6 => ((r6 = 0 → D_sortsThatFit_51 M Φ rec_5 (x1, x2, x3, x4)) ∧ (¬ (r6 = 0) → D_sortsThatFit_51 M Φ rec_5 (x1, x2, (x3 ||| (1 <<< (x4 &&& 31))), x4)))))) := h
  refine WP.blk [(.iload 4, 2, (0, 0), .null), (.iconst 5, 1, (0, 0), .int 5)] (G := True) (c' := (8, [some (.ref 0), some (.int x1), some (.int x2), some (.int x3), some (.int x4)], [.int 5, .int x4], M)) (by decide +kernel) rfl trivial ?_
  refine WP.br (.if_icmp .gt 49, 3, (57, 0), .null) (by decide +kernel) rfl (fun c5 => ?_) (fun c5 => ?_)
  · replace h := h.1 c5
    refine WP.blk [(.iload_n 3, 1, (0, 0), .null)] (G := True) (c' := (58, [some (.ref 0), some (.int x1), some (.int x2), some (.int x3), some (.int x4)], [.int x3], M)) (by decide +kernel) rfl trivial ?_
    exact WP.ret (.ireturn, 1, (0, 0), .null) (rk := 1) (by decide +kernel) (by decide +kernel) rfl trivial (hΦ _ h)
  · replace h := h.2 c5
    refine WP.blk [(.aload_n 0, 1, (0, 0), .null), (.iload_n 1, 1, (0, 0), .null), (.iload_n 2, 1, (0, 0), .null), (.iload 4, 2, (0, 0), .null), (.aload_n 0, 1, (0, 0), .null), (.getfield 26, 3, (6, 2), .null), (.getfield 190, 3, (1, 11), .null), (.aload_n 0, 1, (0, 0), .null), (.getfield 26, 3, (6, 2), .null), (.getfield 156, 3, (1, 6), .null), (.iaload, 1, (0, 0), .null), (.aload_n 0, 1, (0, 0), .null), (.getfield 26, 3, (6, 2), .null), (.getfield 174, 3, (1, 4), .null)] (G := vp_in (M 7 6) 6 ∧ True) (c' := (38, [some (.ref 0), some (.int x1), some (.int x2), some (.int x3), some (.int x4)], [.int (M 7 4), .int (M 10 (Int32.toNatClampNeg (M 7 6))), .int x4, .int x2, .int x1, .ref 0], M)) (by decide +kernel) rfl ⟨h.1, trivial⟩ ?_
    replace h := h.2
    refine WP.call (.invokevirtual 311, 3, (108, 6), .retAddr 6) (by decide +kernel) rfl (sp_tells (d := d + 0) h (fun r6 h => ?_))
    show WP (Ct (d + 4)) 107 Post (41, [some (.ref 0), some (.int x1), some (.int x2), some (.int x3), some (.int x4)], [.int r6], M)
    refine WP.br (.ifCond .eq 10, 3, (51, 0), .null) (by decide +kernel) rfl (fun c7 => ?_) (fun c7 => ?_)
    · replace h := h.1 c7
      exact L_sortsThatFit_51 hΦ hrec_5 _ _ _ _ h
    · replace h := h.2 c7
      refine WP.blk [(.iload_n 3, 1, (0, 0), .null), (.iconst 1, 1, (0, 0), .int 1), (.iload 4, 2, (0, 0), .null), (.ishl, 1, (0, 0), .null), (.ior, 1, (0, 0), .null), (.istore_n 3, 1, (0, 0), .null)] (G := True) (c' := (51, [some (.ref 0), some (.int x1), some (.int x2), some (.int (x3 ||| (1 <<< (x4 &&& 31)))), some (.int x4)], [], M)) (by decide +kernel) rfl trivial ?_
      exact L_sortsThatFit_51 hΦ hrec_5 _ _ _ _ h
theorem P_sortsThatFit_5 {d : Nat} {Post : Option Value → Mm → Prop} {M : Mm} {Φ : Int32 → Prop} (hΦ : ∀ r, Φ r → Post (some (.int r)) M) : ∀ (n : Nat) (x1 : Int32) (x2 : Int32) (x3 : Int32) (x4 : Int32), lp (D_sortsThatFit_5 M Φ) n (x1, x2, x3, x4) → WP (Ct (d + 4)) 107 Post (5, [some (.ref 0), some (.int x1), some (.int x2), some (.int x3), some (.int x4)], [], M)
  | 0, x1, x2, x3, x4, h => absurd h (by simp [lp])
  | n + 1, x1, x2, x3, x4, h => L_sortsThatFit_5 hΦ (P_sortsThatFit_5 hΦ n) x1 x2 x3 x4 h
set_option maxRecDepth 100000 in
set_option maxHeartbeats 4000000 in
theorem sp_sortsThatFit {d : Nat} {Post : Option Value → Mm → Prop} {M : Mm} {a1 : Int32} {a2 : Int32} {Φ : Int32 → Prop} (h : S_sortsThatFit M a1 a2 Φ) (hΦ : ∀ r, Φ r → Post (some (.int r)) M) : Ct (d + 5) 107 [.ref 0, .int a1, .int a2] M Post := by
  refine Ct.go (n := 5) (E := [some (.ref 0), some (.int a1), some (.int a2), none, none]) (by decide +kernel) (by simp [Value.category]) rfl ?_
  refine WP.blk [(.iconst 0, 1, (0, 0), .int 0), (.istore_n 3, 1, (0, 0), .null), (.iconst 1, 1, (0, 0), .int 1), (.istore 4, 2, (0, 0), .null)] (G := True) (c' := (5, [some (.ref 0), some (.int a1), some (.int a2), some (.int 0), some (.int 1)], [], M)) (by decide +kernel) rfl trivial ?_
  obtain ⟨n, h⟩ := h
  exact P_sortsThatFit_5 hΦ n _ _ _ _ h
/-- GearRoad.teethThatFit(IIZ)I -/
def D_teethThatFit_60 (M : Mm) (Φ : Int32 → Prop) (rec_7 : Int32 × Int32 × Int32 × Int32 × Int32 → Prop) : Int32 × Int32 × Int32 × Int32 × Int32 → Prop
  | (x1, x2, x3, x4, x5) => rec_7 (x1, x2, x3, x4, (x5 + 1))
def D_teethThatFit_7 (M : Mm) (Φ : Int32 → Prop) (rec_7 : Int32 × Int32 × Int32 × Int32 × Int32 → Prop) : Int32 × Int32 × Int32 × Int32 × Int32 → Prop
  | (x1, x2, x3, x4, x5) => ((40 < x5 → ((x3 = 0 → Φ x4) ∧ (¬ (x3 = 0) → Φ (-1000000)))) ∧ (¬ (40 < x5) → vp_in (M 7 6) 6 ∧ S_tells M x1 x2 (M 9 (Int32.toNatClampNeg (M 7 6))) x5 (M 7 4) (fun r8 => ((r8 = 0 → D_teethThatFit_60 M Φ rec_7 (x1, x2, x3, x4, x5)) ∧ (¬ (r8 = 0) → ((x3 = 0 → D_teethThatFit_60 M Φ rec_7 (x1, x2, x3, (x4 + 1), x5)) ∧ (¬ (x3 = 0) → Φ x5)))))))
def S_teethThatFit (M : Mm) (a1 : Int32) (a2 : Int32) (a3 : Int32) (Φ : Int32 → Prop) : Prop := ∃ n, lp (D_teethThatFit_7 M Φ) n (a1, a2, a3, 0, 10)
set_option maxRecDepth 100000 in
set_option maxHeartbeats 4000000 in
theorem L_teethThatFit_60 {d : Nat} {Post : Option Value → Mm → Prop} {M : Mm} {rec_7 : Int32 × Int32 × Int32 × Int32 × Int32 → Prop} {Φ : Int32 → Prop} (hΦ : ∀ r, Φ r → Post (some (.int r)) M) (hrec_7 : ∀ (x1 : Int32) (x2 : Int32) (x3 : Int32) (x4 : Int32) (x5 : Int32), rec_7 (x1, x2, x3, x4, x5) → WP (Ct (d + 4)) 110 Post (7, [some (.ref 0), some (.int x1), some (.int x2), some (.int x3), some (.int x4), some (.int x5)], [], M)) : ∀ (x1 : Int32) (x2 : Int32) (x3 : Int32) (x4 : Int32) (x5 : Int32), D_teethThatFit_60 M Φ rec_7 (x1, x2, x3, x4, x5) → WP (Ct (d + 4)) 110 Post (60, [some (.ref 0), some (.int x1), some (.int x2), some (.int x3), some (.int x4), some (.int x5)], [], M) := by
  intro x1 x2 x3 x4 x5 h
  replace h : rec_7 (x1, x2, x3, x4, (x5 + 1)) := h
  refine WP.blk [(.iinc 5 1, 3, (0, 0), .int 1), (.goto (-56), 3, (7, 0), .null)] (G := True) (c' := (7, [some (.ref 0), some (.int x1), some (.int x2), some (.int x3), some (.int x4), some (.int (x5 + 1))], [], M)) (by decide +kernel) rfl trivial ?_
  exact hrec_7 _ _ _ _ _ h
set_option maxRecDepth 100000 in
set_option maxHeartbeats 4000000 in
theorem L_teethThatFit_7 {d : Nat} {Post : Option Value → Mm → Prop} {M : Mm} {rec_7 : Int32 × Int32 × Int32 × Int32 × Int32 → Prop} {Φ : Int32 → Prop} (hΦ : ∀ r, Φ r → Post (some (.int r)) M) (hrec_7 : ∀ (x1 : Int32) (x2 : Int32) (x3 : Int32) (x4 : Int32) (x5 : Int32), rec_7 (x1, x2, x3, x4, x5) → WP (Ct (d + 4)) 110 Post (7, [some (.ref 0), some (.int x1), some (.int x2), some (.int x3), some (.int x4), some (.int x5)], [], M)) : ∀ (x1 : Int32) (x2 : Int32) (x3 : Int32) (x4 : Int32) (x5 : Int32), D_teethThatFit_7 M Φ rec_7 (x1, x2, x3, x4, x5) → WP (Ct (d + 4)) 110 Post (7, [some (.ref 0), some (.int x1), some (.int x2), some (.int x3), some (.int x4), some (.int x5)], [], M) := by
  intro x1 x2 x3 x4 x5 h
  replace h : ((40 < x5 → ((x3 = 0 → Φ x4) ∧ (¬ (x3 = 0) → Φ (-1000000)))) ∧ (¬ (40 < x5) → vp_in (M 7 6) 6 ∧ S_tells M x1 x2 (M 9 (Int32.toNatClampNeg (M 7 6))) x5 (M 7 4) (fun r8 => ((r8 = 0 → D_teethThatFit_60 M Φ rec_7 (x1, x2, x3, x4, x5)) ∧ (¬ (r8 = 0) → ((x3 = 0 → D_teethThatFit_60 M Φ rec_7 (x1, x2, x3, (x4 + 1), x5)) ∧ (¬ (x3 = 0) → Φ x5))))))) := h
  refine WP.blk [(.iload 5, 2, (0, 0), .null), (.bipush 40, 2, (0, 0), .int 40)] (G := True) (c' := (11, [some (.ref 0), some (.int x1), some (.int x2), some (.int x3), some (.int x4), some (.int x5)], [.int 40, .int x5], M)) (by decide +kernel) rfl trivial ?_
  refine WP.br (.if_icmp .gt 55, 3, (66, 0), .null) (by decide +kernel) rfl (fun c6 => ?_) (fun c6 => ?_)
  · replace h := h.1 c6
    refine WP.blk [(.iload_n 3, 1, (0, 0), .null)] (G := True) (c' := (67, [some (.ref 0), some (.int x1), some (.int x2), some (.int x3), some (.int x4), some (.int x5)], [.int x3], M)) (by decide +kernel) rfl trivial ?_
    refine WP.br (.ifCond .eq 8, 3, (75, 0), .null) (by decide +kernel) rfl (fun c7 => ?_) (fun c7 => ?_)
    · replace h := h.1 c7
      refine WP.blk [(.iload 4, 2, (0, 0), .null)] (G := True) (c' := (77, [some (.ref 0), some (.int x1), some (.int x2), some (.int x3), some (.int x4), some (.int x5)], [.int x4], M)) (by decide +kernel) rfl trivial ?_
      exact WP.ret (.ireturn, 1, (0, 0), .null) (rk := 1) (by decide +kernel) (by decide +kernel) rfl trivial (hΦ _ h)
    · replace h := h.2 c7
      refine WP.blk [(.ldc 239, 2, (0, 0), .int (-1000000)), (.goto 5, 3, (77, 0), .null)] (G := True) (c' := (77, [some (.ref 0), some (.int x1), some (.int x2), some (.int x3), some (.int x4), some (.int x5)], [.int (-1000000)], M)) (by decide +kernel) rfl trivial ?_
      exact WP.ret (.ireturn, 1, (0, 0), .null) (rk := 1) (by decide +kernel) (by decide +kernel) rfl trivial (hΦ _ h)
  · replace h := h.2 c6
    refine WP.blk [(.aload_n 0, 1, (0, 0), .null), (.iload_n 1, 1, (0, 0), .null), (.iload_n 2, 1, (0, 0), .null), (.aload_n 0, 1, (0, 0), .null), (.getfield 26, 3, (6, 2), .null), (.getfield 286, 3, (1, 10), .null), (.aload_n 0, 1, (0, 0), .null), (.getfield 26, 3, (6, 2), .null), (.getfield 156, 3, (1, 6), .null), (.iaload, 1, (0, 0), .null), (.iload 5, 2, (0, 0), .null), (.aload_n 0, 1, (0, 0), .null), (.getfield 26, 3, (6, 2), .null), (.getfield 174, 3, (1, 4), .null)] (G := vp_in (M 7 6) 6 ∧ True) (c' := (41, [some (.ref 0), some (.int x1), some (.int x2), some (.int x3), some (.int x4), some (.int x5)], [.int (M 7 4), .int x5, .int (M 9 (Int32.toNatClampNeg (M 7 6))), .int x2, .int x1, .ref 0], M)) (by decide +kernel) rfl ⟨h.1, trivial⟩ ?_
    replace h := h.2
    refine WP.call (.invokevirtual 311, 3, (108, 6), .retAddr 6) (by decide +kernel) rfl (sp_tells (d := d + 0) h (fun r8 h => ?_))
    show WP (Ct (d + 4)) 110 Post (44, [some (.ref 0), some (.int x1), some (.int x2), some (.int x3), some (.int x4), some (.int x5)], [.int r8], M)
    refine WP.br (.ifCond .ne 6, 3, (50, 0), .null) (by decide +kernel) rfl (fun c9 => ?_) (fun c9 => ?_)
    · replace h := h.2 c9
      refine WP.blk [(.iload_n 3, 1, (0, 0), .null)] (G := True) (c' := (51, [some (.ref 0), some (.int x1), some (.int x2), some (.int x3), some (.int x4), some (.int x5)], [.int x3], M)) (by decide +kernel) rfl trivial ?_
      refine WP.br (.ifCond .eq 6, 3, (57, 0), .null) (by decide +kernel) rfl (fun c10 => ?_) (fun c10 => ?_)
      · replace h := h.1 c10
        refine WP.blk [(.iinc 4 1, 3, (0, 0), .int 1)] (G := True) (c' := (60, [some (.ref 0), some (.int x1), some (.int x2), some (.int x3), some (.int (x4 + 1)), some (.int x5)], [], M)) (by decide +kernel) rfl trivial ?_
        exact L_teethThatFit_60 hΦ hrec_7 _ _ _ _ _ h
      · replace h := h.2 c10
        refine WP.blk [(.iload 5, 2, (0, 0), .null)] (G := True) (c' := (56, [some (.ref 0), some (.int x1), some (.int x2), some (.int x3), some (.int x4), some (.int x5)], [.int x5], M)) (by decide +kernel) rfl trivial ?_
        exact WP.ret (.ireturn, 1, (0, 0), .null) (rk := 1) (by decide +kernel) (by decide +kernel) rfl trivial (hΦ _ h)
    · replace h := h.1 (Classical.not_not.mp c9)
      refine WP.blk [(.goto 13, 3, (60, 0), .null)] (G := True) (c' := (60, [some (.ref 0), some (.int x1), some (.int x2), some (.int x3), some (.int x4), some (.int x5)], [], M)) (by decide +kernel) rfl trivial ?_
      exact L_teethThatFit_60 hΦ hrec_7 _ _ _ _ _ h
theorem P_teethThatFit_7 {d : Nat} {Post : Option Value → Mm → Prop} {M : Mm} {Φ : Int32 → Prop} (hΦ : ∀ r, Φ r → Post (some (.int r)) M) : ∀ (n : Nat) (x1 : Int32) (x2 : Int32) (x3 : Int32) (x4 : Int32) (x5 : Int32), lp (D_teethThatFit_7 M Φ) n (x1, x2, x3, x4, x5) → WP (Ct (d + 4)) 110 Post (7, [some (.ref 0), some (.int x1), some (.int x2), some (.int x3), some (.int x4), some (.int x5)], [], M)
  | 0, x1, x2, x3, x4, x5, h => absurd h (by simp [lp])
  | n + 1, x1, x2, x3, x4, x5, h => L_teethThatFit_7 hΦ (P_teethThatFit_7 hΦ n) x1 x2 x3 x4 x5 h
set_option maxRecDepth 100000 in
set_option maxHeartbeats 4000000 in
theorem sp_teethThatFit {d : Nat} {Post : Option Value → Mm → Prop} {M : Mm} {a1 : Int32} {a2 : Int32} {a3 : Int32} {Φ : Int32 → Prop} (h : S_teethThatFit M a1 a2 a3 Φ) (hΦ : ∀ r, Φ r → Post (some (.int r)) M) : Ct (d + 5) 110 [.ref 0, .int a1, .int a2, .int a3] M Post := by
  refine Ct.go (n := 6) (E := [some (.ref 0), some (.int a1), some (.int a2), some (.int a3), none, none]) (by decide +kernel) (by simp [Value.category]) rfl ?_
  refine WP.blk [(.iconst 0, 1, (0, 0), .int 0), (.istore 4, 2, (0, 0), .null), (.bipush 10, 2, (0, 0), .int 10), (.istore 5, 2, (0, 0), .null)] (G := True) (c' := (7, [some (.ref 0), some (.int a1), some (.int a2), some (.int a3), some (.int 0), some (.int 10)], [], M)) (by decide +kernel) rfl trivial ?_
  obtain ⟨n, h⟩ := h
  exact P_teethThatFit_7 hΦ n _ _ _ _ _ h
/-- GearRoad.strengthsThatFit(IIZ)I -/
def D_strengthsThatFit_67 (M : Mm) (Φ : Int32 → Prop) (rec_6 : Int32 × Int32 × Int32 × Int32 × Int32 → Prop) : Int32 × Int32 × Int32 × Int32 × Int32 → Prop
  | (x1, x2, x3, x4, x5) => rec_6 (x1, x2, x3, x4, (x5 + 1))
def D_strengthsThatFit_6 (M : Mm) (Φ : Int32 → Prop) (rec_6 : Int32 × Int32 × Int32 × Int32 × Int32 → Prop) : Int32 × Int32 × Int32 × Int32 × Int32 → Prop
  | (x1, x2, x3, x4, x5) => ((99 < x5 → ((x3 = 0 → Φ x4) ∧ (¬ (x3 = 0) → Φ (-1000000)))) ∧ (¬ (99 < x5) → vp_in (M 7 6) 6 ∧ vp_in (M 7 6) 6 ∧ S_tells M x1 x2 (M 9 (Int32.toNatClampNeg (M 7 6))) (M 10 (Int32.toNatClampNeg (M 7 6))) x5 (fun r8 => ((r8 = 0 → D_strengthsThatFit_67 M Φ rec_6 (x1, x2, x3, x4, x5)) ∧ (¬ (r8 = 0) → ((x3 = 0 → D_strengthsThatFit_67 M Φ rec_6 (x1, x2, x3, (x4 + 1), x5)) ∧ (¬ (x3 = 0) → Φ x5)))))))
def S_strengthsThatFit (M : Mm) (a1 : Int32) (a2 : Int32) (a3 : Int32) (Φ : Int32 → Prop) : Prop := ∃ n, lp (D_strengthsThatFit_6 M Φ) n (a1, a2, a3, 0, 1)
set_option maxRecDepth 100000 in
set_option maxHeartbeats 4000000 in
theorem L_strengthsThatFit_67 {d : Nat} {Post : Option Value → Mm → Prop} {M : Mm} {rec_6 : Int32 × Int32 × Int32 × Int32 × Int32 → Prop} {Φ : Int32 → Prop} (hΦ : ∀ r, Φ r → Post (some (.int r)) M) (hrec_6 : ∀ (x1 : Int32) (x2 : Int32) (x3 : Int32) (x4 : Int32) (x5 : Int32), rec_6 (x1, x2, x3, x4, x5) → WP (Ct (d + 4)) 111 Post (6, [some (.ref 0), some (.int x1), some (.int x2), some (.int x3), some (.int x4), some (.int x5)], [], M)) : ∀ (x1 : Int32) (x2 : Int32) (x3 : Int32) (x4 : Int32) (x5 : Int32), D_strengthsThatFit_67 M Φ rec_6 (x1, x2, x3, x4, x5) → WP (Ct (d + 4)) 111 Post (67, [some (.ref 0), some (.int x1), some (.int x2), some (.int x3), some (.int x4), some (.int x5)], [], M) := by
  intro x1 x2 x3 x4 x5 h
  replace h : rec_6 (x1, x2, x3, x4, (x5 + 1)) := h
  refine WP.blk [(.iinc 5 1, 3, (0, 0), .int 1), (.goto (-64), 3, (6, 0), .null)] (G := True) (c' := (6, [some (.ref 0), some (.int x1), some (.int x2), some (.int x3), some (.int x4), some (.int (x5 + 1))], [], M)) (by decide +kernel) rfl trivial ?_
  exact hrec_6 _ _ _ _ _ h
set_option maxRecDepth 100000 in
set_option maxHeartbeats 4000000 in
theorem L_strengthsThatFit_6 {d : Nat} {Post : Option Value → Mm → Prop} {M : Mm} {rec_6 : Int32 × Int32 × Int32 × Int32 × Int32 → Prop} {Φ : Int32 → Prop} (hΦ : ∀ r, Φ r → Post (some (.int r)) M) (hrec_6 : ∀ (x1 : Int32) (x2 : Int32) (x3 : Int32) (x4 : Int32) (x5 : Int32), rec_6 (x1, x2, x3, x4, x5) → WP (Ct (d + 4)) 111 Post (6, [some (.ref 0), some (.int x1), some (.int x2), some (.int x3), some (.int x4), some (.int x5)], [], M)) : ∀ (x1 : Int32) (x2 : Int32) (x3 : Int32) (x4 : Int32) (x5 : Int32), D_strengthsThatFit_6 M Φ rec_6 (x1, x2, x3, x4, x5) → WP (Ct (d + 4)) 111 Post (6, [some (.ref 0), some (.int x1), some (.int x2), some (.int x3), some (.int x4), some (.int x5)], [], M) := by
  intro x1 x2 x3 x4 x5 h
  replace h : ((99 < x5 → ((x3 = 0 → Φ x4) ∧ (¬ (x3 = 0) → Φ (-1000000)))) ∧ (¬ (99 < x5) → vp_in (M 7 6) 6 ∧ vp_in (M 7 6) 6 ∧ S_tells M x1 x2 (M 9 (Int32.toNatClampNeg (M 7 6))) (M 10 (Int32.toNatClampNeg (M 7 6))) x5 (fun r8 => ((r8 = 0 → D_strengthsThatFit_67 M Φ rec_6 (x1, x2, x3, x4, x5)) ∧ (¬ (r8 = 0) → ((x3 = 0 → D_strengthsThatFit_67 M Φ rec_6 (x1, x2, x3, (x4 + 1), x5)) ∧ (¬ (x3 = 0) → Φ x5))))))) := h
  refine WP.blk [(.iload 5, 2, (0, 0), .null), (.bipush 99, 2, (0, 0), .int 99)] (G := True) (c' := (10, [some (.ref 0), some (.int x1), some (.int x2), some (.int x3), some (.int x4), some (.int x5)], [.int 99, .int x5], M)) (by decide +kernel) rfl trivial ?_
  refine WP.br (.if_icmp .gt 63, 3, (73, 0), .null) (by decide +kernel) rfl (fun c6 => ?_) (fun c6 => ?_)
  · replace h := h.1 c6
    refine WP.blk [(.iload_n 3, 1, (0, 0), .null)] (G := True) (c' := (74, [some (.ref 0), some (.int x1), some (.int x2), some (.int x3), some (.int x4), some (.int x5)], [.int x3], M)) (by decide +kernel) rfl trivial ?_
    refine WP.br (.ifCond .eq 8, 3, (82, 0), .null) (by decide +kernel) rfl (fun c7 => ?_) (fun c7 => ?_)
    · replace h := h.1 c7
      refine WP.blk [(.iload 4, 2, (0, 0), .null)] (G := True) (c' := (84, [some (.ref 0), some (.int x1), some (.int x2), some (.int x3), some (.int x4), some (.int x5)], [.int x4], M)) (by decide +kernel) rfl trivial ?_
      exact WP.ret (.ireturn, 1, (0, 0), .null) (rk := 1) (by decide +kernel) (by decide +kernel) rfl trivial (hΦ _ h)
    · replace h := h.2 c7
      refine WP.blk [(.ldc 239, 2, (0, 0), .int (-1000000)), (.goto 5, 3, (84, 0), .null)] (G := True) (c' := (84, [some (.ref 0), some (.int x1), some (.int x2), some (.int x3), some (.int x4), some (.int x5)], [.int (-1000000)], M)) (by decide +kernel) rfl trivial ?_
      exact WP.ret (.ireturn, 1, (0, 0), .null) (rk := 1) (by decide +kernel) (by decide +kernel) rfl trivial (hΦ _ h)
  · replace h := h.2 c6
    refine WP.blk [(.aload_n 0, 1, (0, 0), .null), (.iload_n 1, 1, (0, 0), .null), (.iload_n 2, 1, (0, 0), .null), (.aload_n 0, 1, (0, 0), .null), (.getfield 26, 3, (6, 2), .null), (.getfield 286, 3, (1, 10), .null), (.aload_n 0, 1, (0, 0), .null), (.getfield 26, 3, (6, 2), .null), (.getfield 156, 3, (1, 6), .null), (.iaload, 1, (0, 0), .null), (.aload_n 0, 1, (0, 0), .null), (.getfield 26, 3, (6, 2), .null), (.getfield 190, 3, (1, 11), .null), (.aload_n 0, 1, (0, 0), .null), (.getfield 26, 3, (6, 2), .null), (.getfield 156, 3, (1, 6), .null), (.iaload, 1, (0, 0), .null), (.iload 5, 2, (0, 0), .null)] (G := vp_in (M 7 6) 6 ∧ vp_in (M 7 6) 6 ∧ True) (c' := (48, [some (.ref 0), some (.int x1), some (.int x2), some (.int x3), some (.int x4), some (.int x5)], [.int x5, .int (M 10 (Int32.toNatClampNeg (M 7 6))), .int (M 9 (Int32.toNatClampNeg (M 7 6))), .int x2, .int x1, .ref 0], M)) (by decide +kernel) rfl ⟨h.1, h.2.1, trivial⟩ ?_
    replace h := h.2.2
    refine WP.call (.invokevirtual 311, 3, (108, 6), .retAddr 6) (by decide +kernel) rfl (sp_tells (d := d + 0) h (fun r8 h => ?_))
    show WP (Ct (d + 4)) 111 Post (51, [some (.ref 0), some (.int x1), some (.int x2), some (.int x3), some (.int x4), some (.int x5)], [.int r8], M)
    refine WP.br (.ifCond .ne 6, 3, (57, 0), .null) (by decide +kernel) rfl (fun c9 => ?_) (fun c9 => ?_)
    · replace h := h.2 c9
      refine WP.blk [(.iload_n 3, 1, (0, 0), .null)] (G := True) (c' := (58, [some (.ref 0), some (.int x1), some (.int x2), some (.int x3), some (.int x4), some (.int x5)], [.int x3], M)) (by decide +kernel) rfl trivial ?_
      refine WP.br (.ifCond .eq 6, 3, (64, 0), .null) (by decide +kernel) rfl (fun c10 => ?_) (fun c10 => ?_)
      · replace h := h.1 c10
        refine WP.blk [(.iinc 4 1, 3, (0, 0), .int 1)] (G := True) (c' := (67, [some (.ref 0), some (.int x1), some (.int x2), some (.int x3), some (.int (x4 + 1)), some (.int x5)], [], M)) (by decide +kernel) rfl trivial ?_
        exact L_strengthsThatFit_67 hΦ hrec_6 _ _ _ _ _ h
      · replace h := h.2 c10
        refine WP.blk [(.iload 5, 2, (0, 0), .null)] (G := True) (c' := (63, [some (.ref 0), some (.int x1), some (.int x2), some (.int x3), some (.int x4), some (.int x5)], [.int x5], M)) (by decide +kernel) rfl trivial ?_
        exact WP.ret (.ireturn, 1, (0, 0), .null) (rk := 1) (by decide +kernel) (by decide +kernel) rfl trivial (hΦ _ h)
    · replace h := h.1 (Classical.not_not.mp c9)
      refine WP.blk [(.goto 13, 3, (67, 0), .null)] (G := True) (c' := (67, [some (.ref 0), some (.int x1), some (.int x2), some (.int x3), some (.int x4), some (.int x5)], [], M)) (by decide +kernel) rfl trivial ?_
      exact L_strengthsThatFit_67 hΦ hrec_6 _ _ _ _ _ h
theorem P_strengthsThatFit_6 {d : Nat} {Post : Option Value → Mm → Prop} {M : Mm} {Φ : Int32 → Prop} (hΦ : ∀ r, Φ r → Post (some (.int r)) M) : ∀ (n : Nat) (x1 : Int32) (x2 : Int32) (x3 : Int32) (x4 : Int32) (x5 : Int32), lp (D_strengthsThatFit_6 M Φ) n (x1, x2, x3, x4, x5) → WP (Ct (d + 4)) 111 Post (6, [some (.ref 0), some (.int x1), some (.int x2), some (.int x3), some (.int x4), some (.int x5)], [], M)
  | 0, x1, x2, x3, x4, x5, h => absurd h (by simp [lp])
  | n + 1, x1, x2, x3, x4, x5, h => L_strengthsThatFit_6 hΦ (P_strengthsThatFit_6 hΦ n) x1 x2 x3 x4 x5 h
set_option maxRecDepth 100000 in
set_option maxHeartbeats 4000000 in
theorem sp_strengthsThatFit {d : Nat} {Post : Option Value → Mm → Prop} {M : Mm} {a1 : Int32} {a2 : Int32} {a3 : Int32} {Φ : Int32 → Prop} (h : S_strengthsThatFit M a1 a2 a3 Φ) (hΦ : ∀ r, Φ r → Post (some (.int r)) M) : Ct (d + 5) 111 [.ref 0, .int a1, .int a2, .int a3] M Post := by
  refine Ct.go (n := 6) (E := [some (.ref 0), some (.int a1), some (.int a2), some (.int a3), none, none]) (by decide +kernel) (by simp [Value.category]) rfl ?_
  refine WP.blk [(.iconst 0, 1, (0, 0), .int 0), (.istore 4, 2, (0, 0), .null), (.iconst 1, 1, (0, 0), .int 1), (.istore 5, 2, (0, 0), .null)] (G := True) (c' := (6, [some (.ref 0), some (.int a1), some (.int a2), some (.int a3), some (.int 0), some (.int 1)], [], M)) (by decide +kernel) rfl trivial ?_
  obtain ⟨n, h⟩ := h
  exact P_strengthsThatFit_6 hΦ n _ _ _ _ _ h
/-- GearRoad.fits(IIII)I -/
def D_fits_167 (Φ : Int32 → Mm → Prop) : Int32 × Int32 × Int32 × Mm → Prop
  | (x1, x2, x3, M) => S_strengthsThatFit M x3 x2 x1 (fun r4 => S_unfound M r4 (fun r5 M5 => Φ r5 M5))
def D_fits_144 (Φ : Int32 → Mm → Prop) : Int32 × Int32 × Int32 × Mm → Prop
  | (x1, x2, x3, M) => S_teethThatFit M x3 x2 x1 (fun r4 => S_unfound M r4 (fun r5 M5 => Φ r5 M5))
def S_fits (M : Mm) (a1 : Int32) (a2 : Int32) (a3 : Int32) (a4 : Int32) (Φ : Int32 → Mm → Prop) : Prop := S_Rows_isRow M a1 (fun r1 => ((r1 = 0 → Φ (-1000001) M) ∧ (¬ (r1 = 0) → S_within M a3 1 6 (fun r3 => ((r3 = 0 → Φ (-1000001) M) ∧ (¬ (r3 = 0) → S_within M a4 0 4 (fun r5 => ((r5 = 0 → Φ (-1000001) M) ∧ (¬ (r5 = 0) → (((M 7 0) = 0 → Φ (-1000002) M) ∧ (¬ ((M 7 0) = 0) → S_Rows_isMissing M a1 (fun r8 => ((r8 = 0 → S_Rows_reaches M a1 a2 a3 (fun r10 => ((r10 = 0 → S_found M 2 (fun r21 M21 => Φ r21 M21)) ∧ (¬ (r10 = 0) → S_Rows_placeOf M a1 a2 (fun r12 => ((a4 = 0 → S_sortsThatFit M r12 a3 (fun r14 => S_unfound M r14 (fun r15 M15 => Φ r15 M15))) ∧ (¬ (a4 = 0) → ((a4 = 1 → ((a4 = 2 → D_fits_144 Φ (1, a3, r12, M)) ∧ (¬ (a4 = 2) → D_fits_144 Φ (0, a3, r12, M)))) ∧ (¬ (a4 = 1) → ((a4 = 2 → ((a4 = 2 → D_fits_144 Φ (1, a3, r12, M)) ∧ (¬ (a4 = 2) → D_fits_144 Φ (0, a3, r12, M)))) ∧ (¬ (a4 = 2) → ((a4 = 4 → D_fits_167 Φ (1, a3, r12, M)) ∧ (¬ (a4 = 4) → D_fits_167 Φ (0, a3, r12, M)))))))))))))) ∧ (¬ (r8 = 0) → S_found M 1 (fun r22 M22 => Φ r22 M22)))))))))))))))
set_option maxRecDepth 100000 in
set_option maxHeartbeats 4000000 in
theorem L_fits_167 {d : Nat} {Post : Option Value → Mm → Prop} {Φ : Int32 → Mm → Prop} (hΦ : ∀ r M1, Φ r M1 → Post (some (.int r)) M1) : ∀ (x1 : Int32) (x2 : Int32) (x3 : Int32) (M : Mm), D_fits_167 Φ (x1, x2, x3, M) → WP (Ct (d + 5)) 106 Post (167, [none, none, none, none, none, none], [.int x1, .int x2, .int x3, .ref 0, .ref 0], M) := by
  intro x1 x2 x3 M h
  replace h : S_strengthsThatFit M x3 x2 x1 (fun r4 => S_unfound M r4 (fun r5 M5 => Φ r5 M5)) := h
  refine WP.call (.invokevirtual 259, 3, (111, 4), .retAddr 6) (by decide +kernel) rfl (sp_strengthsThatFit (d := d + 0) h (fun r4 h => ?_))
  show WP (Ct (d + 5)) 106 Post (170, [none, none, none, none, none, none], [.int r4, .ref 0], M)
  refine WP.call (.invokevirtual 82, 3, (14, 2), .retAddr 6) (by decide +kernel) rfl (sp_unfound (d := d + 4) h (fun r5 M5 h => ?_))
  show WP (Ct (d + 5)) 106 Post (173, [none, none, none, none, none, none], [.int r5], M5)
  exact WP.ret (.ireturn, 1, (0, 0), .null) (rk := 1) (by decide +kernel) (by decide +kernel) rfl trivial (hΦ _ _ h)
set_option maxRecDepth 100000 in
set_option maxHeartbeats 4000000 in
theorem L_fits_144 {d : Nat} {Post : Option Value → Mm → Prop} {Φ : Int32 → Mm → Prop} (hΦ : ∀ r M1, Φ r M1 → Post (some (.int r)) M1) : ∀ (x1 : Int32) (x2 : Int32) (x3 : Int32) (M : Mm), D_fits_144 Φ (x1, x2, x3, M) → WP (Ct (d + 5)) 106 Post (144, [none, none, none, none, none, none], [.int x1, .int x2, .int x3, .ref 0, .ref 0], M) := by
  intro x1 x2 x3 M h
  replace h : S_teethThatFit M x3 x2 x1 (fun r4 => S_unfound M r4 (fun r5 M5 => Φ r5 M5)) := h
  refine WP.call (.invokevirtual 255, 3, (110, 4), .retAddr 6) (by decide +kernel) rfl (sp_teethThatFit (d := d + 0) h (fun r4 h => ?_))
  show WP (Ct (d + 5)) 106 Post (147, [none, none, none, none, none, none], [.int r4, .ref 0], M)
  refine WP.call (.invokevirtual 82, 3, (14, 2), .retAddr 6) (by decide +kernel) rfl (sp_unfound (d := d + 4) h (fun r5 M5 h => ?_))
  show WP (Ct (d + 5)) 106 Post (150, [none, none, none, none, none, none], [.int r5], M5)
  exact WP.ret (.ireturn, 1, (0, 0), .null) (rk := 1) (by decide +kernel) (by decide +kernel) rfl trivial (hΦ _ _ h)
set_option maxRecDepth 100000 in
set_option maxHeartbeats 4000000 in
theorem sp_fits {d : Nat} {Post : Option Value → Mm → Prop} {M : Mm} {a1 : Int32} {a2 : Int32} {a3 : Int32} {a4 : Int32} {Φ : Int32 → Mm → Prop} (h : S_fits M a1 a2 a3 a4 Φ) (hΦ : ∀ r M1, Φ r M1 → Post (some (.int r)) M1) : Ct (d + 6) 106 [.ref 0, .int a1, .int a2, .int a3, .int a4] M Post := by
  refine Ct.go (n := 6) (E := [some (.ref 0), some (.int a1), some (.int a2), some (.int a3), some (.int a4), none]) (by decide +kernel) (by simp [Value.category]) rfl ?_
  refine WP.blk [(.iload_n 1, 1, (0, 0), .null)] (G := True) (c' := (1, [some (.ref 0), some (.int a1), some (.int a2), some (.int a3), some (.int a4), none], [.int a1], M)) (by decide +kernel) rfl trivial ?_
  refine WP.call (.invokestatic 65, 3, (9, 1), .null) (by decide +kernel) rfl (sp_Rows_isRow (d := d + 3) h (fun r1 h => ?_))
  show WP (Ct (d + 5)) 106 Post (4, [some (.ref 0), some (.int a1), some (.int a2), some (.int a3), some (.int a4), none], [.int r1], M)
  refine WP.br (.ifCond .eq 23, 3, (27, 0), .null) (by decide +kernel) rfl (fun c2 => ?_) (fun c2 => ?_)
  · replace h := h.1 c2
    refine WP.blk [(.ldc 73, 2, (0, 0), .int (-1000001))] (G := True) (c' := (29, [some (.ref 0), some (.int a1), some (.int a2), some (.int a3), some (.int a4), none], [.int (-1000001)], M)) (by decide +kernel) rfl trivial ?_
    exact WP.ret (.ireturn, 1, (0, 0), .null) (rk := 1) (by decide +kernel) (by decide +kernel) rfl trivial (hΦ _ _ h)
  · replace h := h.2 c2
    refine WP.blk [(.iload_n 3, 1, (0, 0), .null), (.iconst 1, 1, (0, 0), .int 1), (.bipush 6, 2, (0, 0), .int 6)] (G := True) (c' := (11, [some (.ref 0), some (.int a1), some (.int a2), some (.int a3), some (.int a4), none], [.int 6, .int 1, .int a3], M)) (by decide +kernel) rfl trivial ?_
    refine WP.call (.invokestatic 69, 3, (10, 3), .null) (by decide +kernel) rfl (sp_within (d := d + 4) h (fun r3 h => ?_))
    show WP (Ct (d + 5)) 106 Post (14, [some (.ref 0), some (.int a1), some (.int a2), some (.int a3), some (.int a4), none], [.int r3], M)
    refine WP.br (.ifCond .eq 13, 3, (27, 0), .null) (by decide +kernel) rfl (fun c4 => ?_) (fun c4 => ?_)
    · replace h := h.1 c4
      refine WP.blk [(.ldc 73, 2, (0, 0), .int (-1000001))] (G := True) (c' := (29, [some (.ref 0), some (.int a1), some (.int a2), some (.int a3), some (.int a4), none], [.int (-1000001)], M)) (by decide +kernel) rfl trivial ?_
      exact WP.ret (.ireturn, 1, (0, 0), .null) (rk := 1) (by decide +kernel) (by decide +kernel) rfl trivial (hΦ _ _ h)
    · replace h := h.2 c4
      refine WP.blk [(.iload 4, 2, (0, 0), .null), (.iconst 0, 1, (0, 0), .int 0), (.iconst 4, 1, (0, 0), .int 4)] (G := True) (c' := (21, [some (.ref 0), some (.int a1), some (.int a2), some (.int a3), some (.int a4), none], [.int 4, .int 0, .int a4], M)) (by decide +kernel) rfl trivial ?_
      refine WP.call (.invokestatic 69, 3, (10, 3), .null) (by decide +kernel) rfl (sp_within (d := d + 4) h (fun r5 h => ?_))
      show WP (Ct (d + 5)) 106 Post (24, [some (.ref 0), some (.int a1), some (.int a2), some (.int a3), some (.int a4), none], [.int r5], M)
      refine WP.br (.ifCond .ne 6, 3, (30, 0), .null) (by decide +kernel) rfl (fun c6 => ?_) (fun c6 => ?_)
      · replace h := h.2 c6
        refine WP.blk [(.aload_n 0, 1, (0, 0), .null), (.getfield 26, 3, (6, 2), .null), (.getfield 134, 3, (1, 0), .null)] (G := True) (c' := (37, [some (.ref 0), some (.int a1), some (.int a2), some (.int a3), some (.int a4), none], [.int (M 7 0)], M)) (by decide +kernel) rfl trivial ?_
        refine WP.br (.ifCond .ne 6, 3, (43, 0), .null) (by decide +kernel) rfl (fun c7 => ?_) (fun c7 => ?_)
        · replace h := h.2 c7
          refine WP.blk [(.aload_n 0, 1, (0, 0), .null), (.getfield 12, 3, (6, 0), .null), (.iload_n 1, 1, (0, 0), .null)] (G := True) (c' := (48, [some (.ref 0), some (.int a1), some (.int a2), some (.int a3), some (.int a4), none], [.int a1, .ref 1], M)) (by decide +kernel) rfl trivial ?_
          refine WP.call (.invokevirtual 85, 3, (16, 2), .retAddr 3) (by decide +kernel) rfl (sp_Rows_isMissing (d := d + 4) h (fun r8 h => ?_))
          show WP (Ct (d + 5)) 106 Post (51, [some (.ref 0), some (.int a1), some (.int a2), some (.int a3), some (.int a4), none], [.int r8], M)
          refine WP.br (.ifCond .eq 9, 3, (60, 0), .null) (by decide +kernel) rfl (fun c9 => ?_) (fun c9 => ?_)
          · replace h := h.1 c9
            refine WP.blk [(.aload_n 0, 1, (0, 0), .null), (.getfield 12, 3, (6, 0), .null), (.iload_n 1, 1, (0, 0), .null), (.iload_n 2, 1, (0, 0), .null), (.iload_n 3, 1, (0, 0), .null)] (G := True) (c' := (67, [some (.ref 0), some (.int a1), some (.int a2), some (.int a3), some (.int a4), none], [.int a3, .int a2, .int a1, .ref 1], M)) (by decide +kernel) rfl trivial ?_
            refine WP.call (.invokevirtual 88, 3, (17, 4), .retAddr 3) (by decide +kernel) rfl (sp_Rows_reaches (d := d + 4) h (fun r10 h => ?_))
            show WP (Ct (d + 5)) 106 Post (70, [some (.ref 0), some (.int a1), some (.int a2), some (.int a3), some (.int a4), none], [.int r10], M)
            refine WP.br (.ifCond .ne 9, 3, (79, 0), .null) (by decide +kernel) rfl (fun c11 => ?_) (fun c11 => ?_)
            · replace h := h.2 c11
              refine WP.blk [(.iload_n 1, 1, (0, 0), .null), (.iload_n 2, 1, (0, 0), .null)] (G := True) (c' := (81, [some (.ref 0), some (.int a1), some (.int a2), some (.int a3), some (.int a4), none], [.int a2, .int a1], M)) (by decide +kernel) rfl trivial ?_
              refine WP.call (.invokestatic 249, 3, (13, 2), .null) (by decide +kernel) rfl (sp_Rows_placeOf (d := d + 4) h (fun r12 h => ?_))
              show WP (Ct (d + 5)) 106 Post (84, [some (.ref 0), some (.int a1), some (.int a2), some (.int a3), some (.int a4), none], [.int r12], M)
              refine WP.blk [(.istore 5, 2, (0, 0), .null), (.iload 4, 2, (0, 0), .null)] (G := True) (c' := (88, [some (.ref 0), some (.int a1), some (.int a2), some (.int a3), some (.int a4), some (.int r12)], [.int a4], M)) (by decide +kernel) rfl trivial ?_
              by_cases e13 : a4 = 0
              · refine WP.sw (.tableswitch 63 0 2 #[28, 40, 40], 28, (0, 0), .null) 116 (by decide +kernel) (Or.inl ⟨_, _, _, _, rfl⟩) (by rw [e13]; decide) ?_
                replace h := h.1 e13
                refine WP.blk [(.aload_n 0, 1, (0, 0), .null), (.aload_n 0, 1, (0, 0), .null), (.iload 5, 2, (0, 0), .null), (.iload_n 3, 1, (0, 0), .null)] (G := True) (c' := (121, [some (.ref 0), some (.int a1), some (.int a2), some (.int a3), some (.int a4), some (.int r12)], [.int a3, .int r12, .ref 0, .ref 0], M)) (by decide +kernel) rfl trivial ?_
                refine WP.call (.invokevirtual 252, 3, (107, 3), .retAddr 6) (by decide +kernel) rfl (sp_sortsThatFit (d := d + 0) h (fun r14 h => ?_))
                show WP (Ct (d + 5)) 106 Post (124, [some (.ref 0), some (.int a1), some (.int a2), some (.int a3), some (.int a4), some (.int r12)], [.int r14, .ref 0], M)
                refine WP.call (.invokevirtual 82, 3, (14, 2), .retAddr 6) (by decide +kernel) rfl (sp_unfound (d := d + 4) h (fun r15 M15 h => ?_))
                show WP (Ct (d + 5)) 106 Post (127, [some (.ref 0), some (.int a1), some (.int a2), some (.int a3), some (.int a4), some (.int r12)], [.int r15], M15)
                exact WP.ret (.ireturn, 1, (0, 0), .null) (rk := 1) (by decide +kernel) (by decide +kernel) rfl trivial (hΦ _ _ h)
              replace h := h.2 e13
              by_cases e16 : a4 = 1
              · refine WP.sw (.tableswitch 63 0 2 #[28, 40, 40], 28, (0, 0), .null) 128 (by decide +kernel) (Or.inl ⟨_, _, _, _, rfl⟩) (by rw [e16]; decide) ?_
                replace h := h.1 e16
                refine WP.blk [(.aload_n 0, 1, (0, 0), .null), (.aload_n 0, 1, (0, 0), .null), (.iload 5, 2, (0, 0), .null), (.iload_n 3, 1, (0, 0), .null), (.iload 4, 2, (0, 0), .null), (.iconst 2, 1, (0, 0), .int 2)] (G := True) (c' := (136, [some (.ref 0), some (.int a1), some (.int a2), some (.int a3), some (.int a4), some (.int r12)], [.int 2, .int a4, .int a3, .int r12, .ref 0, .ref 0], M)) (by decide +kernel) rfl trivial ?_
                refine WP.br (.if_icmp .ne 7, 3, (143, 0), .null) (by decide +kernel) rfl (fun c17 => ?_) (fun c17 => ?_)
                · replace h := h.2 c17
                  refine WP.blk [(.iconst 0, 1, (0, 0), .int 0)] (G := True) (c' := (144, [some (.ref 0), some (.int a1), some (.int a2), some (.int a3), some (.int a4), some (.int r12)], [.int 0, .int a3, .int r12, .ref 0, .ref 0], M)) (by decide +kernel) rfl trivial ?_
                  refine WP.fgt [none, none, none, none, none, none] (by simp [fgt]) ?_
                  exact L_fits_144 hΦ _ _ _ _ h
                · replace h := h.1 (Classical.not_not.mp c17)
                  refine WP.blk [(.iconst 1, 1, (0, 0), .int 1), (.goto 4, 3, (144, 0), .null)] (G := True) (c' := (144, [some (.ref 0), some (.int a1), some (.int a2), some (.int a3), some (.int a4), some (.int r12)], [.int 1, .int a3, .int r12, .ref 0, .ref 0], M)) (by decide +kernel) rfl trivial ?_
                  refine WP.fgt [none, none, none, none, none, none] (by simp [fgt]) ?_
                  exact L_fits_144 hΦ _ _ _ _ h
              replace h := h.2 e16
              by_cases e18 : a4 = 2
              · refine WP.sw (.tableswitch 63 0 2 #[28, 40, 40], 28, (0, 0), .null) 128 (by decide +kernel) (Or.inl ⟨_, _, _, _, rfl⟩) (by rw [e18]; decide) ?_
                replace h := h.1 e18
                refine WP.blk [(.aload_n 0, 1, (0, 0), .null), (.aload_n 0, 1, (0, 0), .null), (.iload 5, 2, (0, 0), .null), (.iload_n 3, 1, (0, 0), .null), (.iload 4, 2, (0, 0), .null), (.iconst 2, 1, (0, 0), .int 2)] (G := True) (c' := (136, [some (.ref 0), some (.int a1), some (.int a2), some (.int a3), some (.int a4), some (.int r12)], [.int 2, .int a4, .int a3, .int r12, .ref 0, .ref 0], M)) (by decide +kernel) rfl trivial ?_
                refine WP.br (.if_icmp .ne 7, 3, (143, 0), .null) (by decide +kernel) rfl (fun c19 => ?_) (fun c19 => ?_)
                · replace h := h.2 c19
                  refine WP.blk [(.iconst 0, 1, (0, 0), .int 0)] (G := True) (c' := (144, [some (.ref 0), some (.int a1), some (.int a2), some (.int a3), some (.int a4), some (.int r12)], [.int 0, .int a3, .int r12, .ref 0, .ref 0], M)) (by decide +kernel) rfl trivial ?_
                  refine WP.fgt [none, none, none, none, none, none] (by simp [fgt]) ?_
                  exact L_fits_144 hΦ _ _ _ _ h
                · replace h := h.1 (Classical.not_not.mp c19)
                  refine WP.blk [(.iconst 1, 1, (0, 0), .int 1), (.goto 4, 3, (144, 0), .null)] (G := True) (c' := (144, [some (.ref 0), some (.int a1), some (.int a2), some (.int a3), some (.int a4), some (.int r12)], [.int 1, .int a3, .int r12, .ref 0, .ref 0], M)) (by decide +kernel) rfl trivial ?_
                  refine WP.fgt [none, none, none, none, none, none] (by simp [fgt]) ?_
                  exact L_fits_144 hΦ _ _ _ _ h
              replace h := h.2 e18
              refine WP.sw (.tableswitch 63 0 2 #[28, 40, 40], 28, (0, 0), .null) 151 (by decide +kernel) (Or.inl ⟨_, _, _, _, rfl⟩) (by rw [sw_out (by have := ne_toInt e13; rw [show (0 : Int32).toInt = 0 from by decide] at this; have := ne_toInt e16; rw [show (1 : Int32).toInt = 1 from by decide] at this; have := ne_toInt e18; rw [show (2 : Int32).toInt = 2 from by decide] at this; omega)]; rfl) ?_
              refine WP.blk [(.aload_n 0, 1, (0, 0), .null), (.aload_n 0, 1, (0, 0), .null), (.iload 5, 2, (0, 0), .null), (.iload_n 3, 1, (0, 0), .null), (.iload 4, 2, (0, 0), .null), (.iconst 4, 1, (0, 0), .int 4)] (G := True) (c' := (159, [some (.ref 0), some (.int a1), some (.int a2), some (.int a3), some (.int a4), some (.int r12)], [.int 4, .int a4, .int a3, .int r12, .ref 0, .ref 0], M)) (by decide +kernel) rfl trivial ?_
              refine WP.br (.if_icmp .ne 7, 3, (166, 0), .null) (by decide +kernel) rfl (fun c20 => ?_) (fun c20 => ?_)
              · replace h := h.2 c20
                refine WP.blk [(.iconst 0, 1, (0, 0), .int 0)] (G := True) (c' := (167, [some (.ref 0), some (.int a1), some (.int a2), some (.int a3), some (.int a4), some (.int r12)], [.int 0, .int a3, .int r12, .ref 0, .ref 0], M)) (by decide +kernel) rfl trivial ?_
                refine WP.fgt [none, none, none, none, none, none] (by simp [fgt]) ?_
                exact L_fits_167 hΦ _ _ _ _ h
              · replace h := h.1 (Classical.not_not.mp c20)
                refine WP.blk [(.iconst 1, 1, (0, 0), .int 1), (.goto 4, 3, (167, 0), .null)] (G := True) (c' := (167, [some (.ref 0), some (.int a1), some (.int a2), some (.int a3), some (.int a4), some (.int r12)], [.int 1, .int a3, .int r12, .ref 0, .ref 0], M)) (by decide +kernel) rfl trivial ?_
                refine WP.fgt [none, none, none, none, none, none] (by simp [fgt]) ?_
                exact L_fits_167 hΦ _ _ _ _ h
            · replace h := h.1 (Classical.not_not.mp c11)
              refine WP.blk [(.aload_n 0, 1, (0, 0), .null), (.iconst 2, 1, (0, 0), .int 2)] (G := True) (c' := (75, [some (.ref 0), some (.int a1), some (.int a2), some (.int a3), some (.int a4), none], [.int 2, .ref 0], M)) (by decide +kernel) rfl trivial ?_
              refine WP.call (.invokevirtual 74, 3, (11, 2), .retAddr 6) (by decide +kernel) rfl (sp_found (d := d + 4) h (fun r21 M21 h => ?_))
              show WP (Ct (d + 5)) 106 Post (78, [some (.ref 0), some (.int a1), some (.int a2), some (.int a3), some (.int a4), none], [.int r21], M21)
              exact WP.ret (.ireturn, 1, (0, 0), .null) (rk := 1) (by decide +kernel) (by decide +kernel) rfl trivial (hΦ _ _ h)
          · replace h := h.2 c9
            refine WP.blk [(.aload_n 0, 1, (0, 0), .null), (.iconst 1, 1, (0, 0), .int 1)] (G := True) (c' := (56, [some (.ref 0), some (.int a1), some (.int a2), some (.int a3), some (.int a4), none], [.int 1, .ref 0], M)) (by decide +kernel) rfl trivial ?_
            refine WP.call (.invokevirtual 74, 3, (11, 2), .retAddr 6) (by decide +kernel) rfl (sp_found (d := d + 4) h (fun r22 M22 h => ?_))
            show WP (Ct (d + 5)) 106 Post (59, [some (.ref 0), some (.int a1), some (.int a2), some (.int a3), some (.int a4), none], [.int r22], M22)
            exact WP.ret (.ireturn, 1, (0, 0), .null) (rk := 1) (by decide +kernel) (by decide +kernel) rfl trivial (hΦ _ _ h)
        · replace h := h.1 (Classical.not_not.mp c7)
          refine WP.blk [(.ldc 142, 2, (0, 0), .int (-1000002))] (G := True) (c' := (42, [some (.ref 0), some (.int a1), some (.int a2), some (.int a3), some (.int a4), none], [.int (-1000002)], M)) (by decide +kernel) rfl trivial ?_
          exact WP.ret (.ireturn, 1, (0, 0), .null) (rk := 1) (by decide +kernel) (by decide +kernel) rfl trivial (hΦ _ _ h)
      · replace h := h.1 (Classical.not_not.mp c6)
        refine WP.blk [(.ldc 73, 2, (0, 0), .int (-1000001))] (G := True) (c' := (29, [some (.ref 0), some (.int a1), some (.int a2), some (.int a3), some (.int a4), none], [.int (-1000001)], M)) (by decide +kernel) rfl trivial ?_
        exact WP.ret (.ireturn, 1, (0, 0), .null) (rk := 1) (by decide +kernel) (by decide +kernel) rfl trivial (hΦ _ _ h)
/-- GearRoad.commonDivisor(II)I -/
def D_commonDivisor_34 (M : Mm) (Φ : Int32 → Prop) : Int32 → Prop
  | x1 => S_Math_max M 1 x1 (fun r2 => Φ r2)
def D_commonDivisor_7 (M : Mm) (Φ : Int32 → Prop) (rec_7 : Int32 × Int32 × Int32 → Prop) : Int32 × Int32 × Int32 → Prop
  | (x1, x2, x3) => ((64 ≤ x3 → D_commonDivisor_34 M Φ x1) ∧ (¬ (64 ≤ x3) → ((x2 = 0 → D_commonDivisor_34 M Φ x1) ∧ (¬ (x2 = 0) → ¬ x2 = 0 ∧ rec_7 (x2, (irm x1 x2), (x3 + 1))))))
def S_commonDivisor (M : Mm) (a1 : Int32) (a2 : Int32) (Φ : Int32 → Prop) : Prop := ∃ n, lp (D_commonDivisor_7 M Φ) n (a1, a2, 0)
set_option maxRecDepth 100000 in
set_option maxHeartbeats 4000000 in
theorem L_commonDivisor_34 {d : Nat} {Post : Option Value → Mm → Prop} {M : Mm} {Φ : Int32 → Prop} (hΦ : ∀ r, Φ r → Post (some (.int r)) M) : ∀ (x1 : Int32), D_commonDivisor_34 M Φ x1 → WP (Ct (d + 1)) 114 Post (34, [none, none, some (.int x1), none, none, none], [], M) := by
  intro x1 h
  replace h : S_Math_max M 1 x1 (fun r2 => Φ r2) := h
  refine WP.blk [(.iconst 1, 1, (0, 0), .int 1), (.iload_n 2, 1, (0, 0), .null)] (G := True) (c' := (36, [none, none, some (.int x1), none, none, none], [.int x1, .int 1], M)) (by decide +kernel) rfl trivial ?_
  refine WP.call (.invokestatic 306, 3, (99, 2), .null) (by decide +kernel) rfl (sp_Math_max (d := d + 0) h (fun r2 h => ?_))
  show WP (Ct (d + 1)) 114 Post (39, [none, none, some (.int x1), none, none, none], [.int r2], M)
  exact WP.ret (.ireturn, 1, (0, 0), .null) (rk := 1) (by decide +kernel) (by decide +kernel) rfl trivial (hΦ _ h)
set_option maxRecDepth 100000 in
set_option maxHeartbeats 4000000 in
theorem L_commonDivisor_7 {d : Nat} {Post : Option Value → Mm → Prop} {M : Mm} {rec_7 : Int32 × Int32 × Int32 → Prop} {Φ : Int32 → Prop} (hΦ : ∀ r, Φ r → Post (some (.int r)) M) (hrec_7 : ∀ (x1 : Int32) (x2 : Int32) (x3 : Int32), rec_7 (x1, x2, x3) → WP (Ct (d + 1)) 114 Post (7, [none, none, some (.int x1), some (.int x2), some (.int x3), none], [], M)) : ∀ (x1 : Int32) (x2 : Int32) (x3 : Int32), D_commonDivisor_7 M Φ rec_7 (x1, x2, x3) → WP (Ct (d + 1)) 114 Post (7, [none, none, some (.int x1), some (.int x2), some (.int x3), none], [], M) := by
  intro x1 x2 x3 h
  replace h : ((64 ≤ x3 → D_commonDivisor_34 M Φ x1) ∧ (¬ (64 ≤ x3) → ((x2 = 0 → D_commonDivisor_34 M Φ x1) ∧ (¬ (x2 = 0) → ¬ x2 = 0 ∧ rec_7 (x2, (irm x1 x2), (x3 + 1)))))) := h
  refine WP.blk [(.iload 4, 2, (0, 0), .null), (.bipush 64, 2, (0, 0), .int 64)] (G := True) (c' := (11, [none, none, some (.int x1), some (.int x2), some (.int x3), none], [.int 64, .int x3], M)) (by decide +kernel) rfl trivial ?_
  refine WP.br (.if_icmp .ge 23, 3, (34, 0), .null) (by decide +kernel) rfl (fun c4 => ?_) (fun c4 => ?_)
  · replace h := h.1 c4
    refine WP.fgt [none, none, some (.int x1), none, none, none] (by simp [fgt]) ?_
    exact L_commonDivisor_34 hΦ _ h
  · replace h := h.2 c4
    refine WP.blk [(.iload_n 3, 1, (0, 0), .null)] (G := True) (c' := (15, [none, none, some (.int x1), some (.int x2), some (.int x3), none], [.int x2], M)) (by decide +kernel) rfl trivial ?_
    refine WP.br (.ifCond .eq 19, 3, (34, 0), .null) (by decide +kernel) rfl (fun c5 => ?_) (fun c5 => ?_)
    · replace h := h.1 c5
      refine WP.fgt [none, none, some (.int x1), none, none, none] (by simp [fgt]) ?_
      exact L_commonDivisor_34 hΦ _ h
    · replace h := h.2 c5
      refine WP.blk [(.iload_n 2, 1, (0, 0), .null), (.iload_n 3, 1, (0, 0), .null), (.irem, 1, (0, 0), .null), (.istore 5, 2, (0, 0), .null), (.iload_n 3, 1, (0, 0), .null), (.istore_n 2, 1, (0, 0), .null), (.iload 5, 2, (0, 0), .null), (.istore_n 3, 1, (0, 0), .null), (.iinc 4 1, 3, (0, 0), .int 1), (.goto (-24), 3, (7, 0), .null)] (G := ¬ x2 = 0 ∧ True) (c' := (7, [none, none, some (.int x2), some (.int (irm x1 x2)), some (.int (x3 + 1)), some (.int (irm x1 x2))], [], M)) (by decide +kernel) rfl ⟨h.1, trivial⟩ ?_
      replace h := h.2
      refine WP.fgt [none, none, some (.int x2), some (.int (irm x1 x2)), some (.int (x3 + 1)), none] (by simp [fgt]) ?_
      exact hrec_7 _ _ _ h
theorem P_commonDivisor_7 {d : Nat} {Post : Option Value → Mm → Prop} {M : Mm} {Φ : Int32 → Prop} (hΦ : ∀ r, Φ r → Post (some (.int r)) M) : ∀ (n : Nat) (x1 : Int32) (x2 : Int32) (x3 : Int32), lp (D_commonDivisor_7 M Φ) n (x1, x2, x3) → WP (Ct (d + 1)) 114 Post (7, [none, none, some (.int x1), some (.int x2), some (.int x3), none], [], M)
  | 0, x1, x2, x3, h => absurd h (by simp [lp])
  | n + 1, x1, x2, x3, h => L_commonDivisor_7 hΦ (P_commonDivisor_7 hΦ n) x1 x2 x3 h
set_option maxRecDepth 100000 in
set_option maxHeartbeats 4000000 in
theorem sp_commonDivisor {d : Nat} {Post : Option Value → Mm → Prop} {M : Mm} {a1 : Int32} {a2 : Int32} {Φ : Int32 → Prop} (h : S_commonDivisor M a1 a2 Φ) (hΦ : ∀ r, Φ r → Post (some (.int r)) M) : Ct (d + 2) 114 [.int a1, .int a2] M Post := by
  refine Ct.go (n := 6) (E := [some (.int a1), some (.int a2), none, none, none, none]) (by decide +kernel) (by simp [Value.category]) rfl ?_
  refine WP.blk [(.iload_n 0, 1, (0, 0), .null), (.istore_n 2, 1, (0, 0), .null), (.iload_n 1, 1, (0, 0), .null), (.istore_n 3, 1, (0, 0), .null), (.iconst 0, 1, (0, 0), .int 0), (.istore 4, 2, (0, 0), .null)] (G := True) (c' := (7, [some (.int a1), some (.int a2), some (.int a1), some (.int a2), some (.int 0), none], [], M)) (by decide +kernel) rfl trivial ?_
  refine WP.fgt [none, none, some (.int a1), some (.int a2), some (.int 0), none] (by simp [fgt]) ?_
  obtain ⟨n, h⟩ := h
  exact P_commonDivisor_7 hΦ n _ _ _ h
/-- GearRoad.chance(II)I -/
def D_chance_97 (M : Mm) (Φ : Int32 → Prop) : Int32 × Int32 × Int32 → Prop
  | (x1, x2, x3) => S_commonDivisor M x2 x1 (fun r4 => ¬ r4 = 0 ∧ Φ (x3 / r4))
def D_chance_49 (M : Mm) (Φ : Int32 → Prop) (rec_49 : Int32 × Int32 × Int32 × Int32 × Int32 → Prop) : Int32 × Int32 × Int32 × Int32 × Int32 → Prop
  | (x1, x2, x3, x4, x5) => (((M 7 3) ≤ x5 → ((x2 = 0 → D_chance_97 M Φ (x3, x4, x3)) ∧ (¬ (x2 = 0) → D_chance_97 M Φ (x3, x4, x4)))) ∧ (¬ ((M 7 3) ≤ x5) → S_Bike_tenthsBorne 7 M x5 x1 (fun r8 => rec_49 (x1, x2, (x3 * r8), (x4 * 10), (x5 + 1)))))
def S_chance (M : Mm) (a1 : Int32) (a2 : Int32) (Φ : Int32 → Prop) : Prop := (((M 7 0) = 0 → Φ (-1000002)) ∧ (¬ ((M 7 0) = 0) → S_within M a1 0 10 (fun r2 => ((r2 = 0 → Φ (-1000001)) ∧ (¬ (r2 = 0) → S_within M a2 0 1 (fun r4 => ((r4 = 0 → Φ (-1000001)) ∧ (¬ (r4 = 0) → ∃ n, lp (D_chance_49 M Φ) n (a1, a2, 1, 1, (M 7 7))))))))))
set_option maxRecDepth 100000 in
set_option maxHeartbeats 4000000 in
theorem L_chance_97 {d : Nat} {Post : Option Value → Mm → Prop} {M : Mm} {Φ : Int32 → Prop} (hΦ : ∀ r, Φ r → Post (some (.int r)) M) : ∀ (x1 : Int32) (x2 : Int32) (x3 : Int32), D_chance_97 M Φ (x1, x2, x3) → WP (Ct (d + 6)) 112 Post (97, [none, none, none, some (.int x1), some (.int x2), none], [.int x3], M) := by
  intro x1 x2 x3 h
  replace h : S_commonDivisor M x2 x1 (fun r4 => ¬ r4 = 0 ∧ Φ (x3 / r4)) := h
  refine WP.blk [(.iload 4, 2, (0, 0), .null), (.iload_n 3, 1, (0, 0), .null)] (G := True) (c' := (100, [none, none, none, some (.int x1), some (.int x2), none], [.int x1, .int x2, .int x3], M)) (by decide +kernel) rfl trivial ?_
  refine WP.call (.invokestatic 268, 3, (114, 2), .null) (by decide +kernel) rfl (sp_commonDivisor (d := d + 4) h (fun r4 h => ?_))
  show WP (Ct (d + 6)) 112 Post (103, [none, none, none, some (.int x1), some (.int x2), none], [.int r4, .int x3], M)
  refine WP.blk [(.idiv, 1, (0, 0), .null)] (G := ¬ r4 = 0 ∧ True) (c' := (104, [none, none, none, some (.int x1), some (.int x2), none], [.int (x3 / r4)], M)) (by decide +kernel) rfl ⟨h.1, trivial⟩ ?_
  replace h := h.2
  exact WP.ret (.ireturn, 1, (0, 0), .null) (rk := 1) (by decide +kernel) (by decide +kernel) rfl trivial (hΦ _ h)
set_option maxRecDepth 100000 in
set_option maxHeartbeats 4000000 in
theorem L_chance_49 {d : Nat} {Post : Option Value → Mm → Prop} {M : Mm} {rec_49 : Int32 × Int32 × Int32 × Int32 × Int32 → Prop} {Φ : Int32 → Prop} (hΦ : ∀ r, Φ r → Post (some (.int r)) M) (hrec_49 : ∀ (x1 : Int32) (x2 : Int32) (x3 : Int32) (x4 : Int32) (x5 : Int32), rec_49 (x1, x2, x3, x4, x5) → WP (Ct (d + 6)) 112 Post (49, [some (.ref 0), some (.int x1), some (.int x2), some (.int x3), some (.int x4), some (.int x5)], [], M)) : ∀ (x1 : Int32) (x2 : Int32) (x3 : Int32) (x4 : Int32) (x5 : Int32), D_chance_49 M Φ rec_49 (x1, x2, x3, x4, x5) → WP (Ct (d + 6)) 112 Post (49, [some (.ref 0), some (.int x1), some (.int x2), some (.int x3), some (.int x4), some (.int x5)], [], M) := by
  intro x1 x2 x3 x4 x5 h
  replace h : (((M 7 3) ≤ x5 → ((x2 = 0 → D_chance_97 M Φ (x3, x4, x3)) ∧ (¬ (x2 = 0) → D_chance_97 M Φ (x3, x4, x4)))) ∧ (¬ ((M 7 3) ≤ x5) → S_Bike_tenthsBorne 7 M x5 x1 (fun r8 => rec_49 (x1, x2, (x3 * r8), (x4 * 10), (x5 + 1))))) := h
  refine WP.blk [(.iload 5, 2, (0, 0), .null), (.aload_n 0, 1, (0, 0), .null), (.getfield 26, 3, (6, 2), .null), (.getfield 262, 3, (1, 3), .null)] (G := True) (c' := (58, [some (.ref 0), some (.int x1), some (.int x2), some (.int x3), some (.int x4), some (.int x5)], [.int (M 7 3), .int x5], M)) (by decide +kernel) rfl trivial ?_
  refine WP.br (.if_icmp .ge 29, 3, (87, 0), .null) (by decide +kernel) rfl (fun c6 => ?_) (fun c6 => ?_)
  · replace h := h.1 c6
    refine WP.blk [(.iload_n 2, 1, (0, 0), .null)] (G := True) (c' := (88, [some (.ref 0), some (.int x1), some (.int x2), some (.int x3), some (.int x4), some (.int x5)], [.int x2], M)) (by decide +kernel) rfl trivial ?_
    refine WP.br (.ifCond .ne 7, 3, (95, 0), .null) (by decide +kernel) rfl (fun c7 => ?_) (fun c7 => ?_)
    · replace h := h.2 c7
      refine WP.blk [(.iload 4, 2, (0, 0), .null)] (G := True) (c' := (97, [some (.ref 0), some (.int x1), some (.int x2), some (.int x3), some (.int x4), some (.int x5)], [.int x4], M)) (by decide +kernel) rfl trivial ?_
      refine WP.fgt [none, none, none, some (.int x3), some (.int x4), none] (by simp [fgt]) ?_
      exact L_chance_97 hΦ _ _ _ h
    · replace h := h.1 (Classical.not_not.mp c7)
      refine WP.blk [(.iload_n 3, 1, (0, 0), .null), (.goto 5, 3, (97, 0), .null)] (G := True) (c' := (97, [some (.ref 0), some (.int x1), some (.int x2), some (.int x3), some (.int x4), some (.int x5)], [.int x3], M)) (by decide +kernel) rfl trivial ?_
      refine WP.fgt [none, none, none, some (.int x3), some (.int x4), none] (by simp [fgt]) ?_
      exact L_chance_97 hΦ _ _ _ h
  · replace h := h.2 c6
    refine WP.blk [(.iload_n 3, 1, (0, 0), .null), (.aload_n 0, 1, (0, 0), .null), (.getfield 26, 3, (6, 2), .null), (.iload 5, 2, (0, 0), .null), (.iload_n 1, 1, (0, 0), .null)] (G := True) (c' := (69, [some (.ref 0), some (.int x1), some (.int x2), some (.int x3), some (.int x4), some (.int x5)], [.int x1, .int x5, .ref 7, .int x3], M)) (by decide +kernel) rfl trivial ?_
    refine WP.call (.invokevirtual 265, 3, (113, 3), .retAddr 1) (by decide +kernel) rfl (sp_Bike_tenthsBorne (d := d + 0) (by decide) h (fun r8 h => ?_))
    show WP (Ct (d + 6)) 112 Post (72, [some (.ref 0), some (.int x1), some (.int x2), some (.int x3), some (.int x4), some (.int x5)], [.int r8, .int x3], M)
    refine WP.blk [(.imul, 1, (0, 0), .null), (.istore_n 3, 1, (0, 0), .null), (.iload 4, 2, (0, 0), .null), (.bipush 10, 2, (0, 0), .int 10), (.imul, 1, (0, 0), .null), (.istore 4, 2, (0, 0), .null), (.iinc 5 1, 3, (0, 0), .int 1), (.goto (-35), 3, (49, 0), .null)] (G := True) (c' := (49, [some (.ref 0), some (.int x1), some (.int x2), some (.int (x3 * r8)), some (.int (x4 * 10)), some (.int (x5 + 1))], [], M)) (by decide +kernel) rfl trivial ?_
    exact hrec_49 _ _ _ _ _ h
theorem P_chance_49 {d : Nat} {Post : Option Value → Mm → Prop} {M : Mm} {Φ : Int32 → Prop} (hΦ : ∀ r, Φ r → Post (some (.int r)) M) : ∀ (n : Nat) (x1 : Int32) (x2 : Int32) (x3 : Int32) (x4 : Int32) (x5 : Int32), lp (D_chance_49 M Φ) n (x1, x2, x3, x4, x5) → WP (Ct (d + 6)) 112 Post (49, [some (.ref 0), some (.int x1), some (.int x2), some (.int x3), some (.int x4), some (.int x5)], [], M)
  | 0, x1, x2, x3, x4, x5, h => absurd h (by simp [lp])
  | n + 1, x1, x2, x3, x4, x5, h => L_chance_49 hΦ (P_chance_49 hΦ n) x1 x2 x3 x4 x5 h
set_option maxRecDepth 100000 in
set_option maxHeartbeats 4000000 in
theorem sp_chance {d : Nat} {Post : Option Value → Mm → Prop} {M : Mm} {a1 : Int32} {a2 : Int32} {Φ : Int32 → Prop} (h : S_chance M a1 a2 Φ) (hΦ : ∀ r, Φ r → Post (some (.int r)) M) : Ct (d + 7) 112 [.ref 0, .int a1, .int a2] M Post := by
  refine Ct.go (n := 6) (E := [some (.ref 0), some (.int a1), some (.int a2), none, none, none]) (by decide +kernel) (by simp [Value.category]) rfl ?_
  refine WP.blk [(.aload_n 0, 1, (0, 0), .null), (.getfield 26, 3, (6, 2), .null), (.getfield 134, 3, (1, 0), .null)] (G := True) (c' := (7, [some (.ref 0), some (.int a1), some (.int a2), none, none, none], [.int (M 7 0)], M)) (by decide +kernel) rfl trivial ?_
  refine WP.br (.ifCond .ne 6, 3, (13, 0), .null) (by decide +kernel) rfl (fun c1 => ?_) (fun c1 => ?_)
  · replace h := h.2 c1
    refine WP.blk [(.iload_n 1, 1, (0, 0), .null), (.iconst 0, 1, (0, 0), .int 0), (.bipush 10, 2, (0, 0), .int 10)] (G := True) (c' := (17, [some (.ref 0), some (.int a1), some (.int a2), none, none, none], [.int 10, .int 0, .int a1], M)) (by decide +kernel) rfl trivial ?_
    refine WP.call (.invokestatic 69, 3, (10, 3), .null) (by decide +kernel) rfl (sp_within (d := d + 5) h (fun r2 h => ?_))
    show WP (Ct (d + 6)) 112 Post (20, [some (.ref 0), some (.int a1), some (.int a2), none, none, none], [.int r2], M)
    refine WP.br (.ifCond .eq 12, 3, (32, 0), .null) (by decide +kernel) rfl (fun c3 => ?_) (fun c3 => ?_)
    · replace h := h.1 c3
      refine WP.blk [(.ldc 73, 2, (0, 0), .int (-1000001))] (G := True) (c' := (34, [some (.ref 0), some (.int a1), some (.int a2), none, none, none], [.int (-1000001)], M)) (by decide +kernel) rfl trivial ?_
      exact WP.ret (.ireturn, 1, (0, 0), .null) (rk := 1) (by decide +kernel) (by decide +kernel) rfl trivial (hΦ _ h)
    · replace h := h.2 c3
      refine WP.blk [(.iload_n 2, 1, (0, 0), .null), (.iconst 0, 1, (0, 0), .int 0), (.iconst 1, 1, (0, 0), .int 1)] (G := True) (c' := (26, [some (.ref 0), some (.int a1), some (.int a2), none, none, none], [.int 1, .int 0, .int a2], M)) (by decide +kernel) rfl trivial ?_
      refine WP.call (.invokestatic 69, 3, (10, 3), .null) (by decide +kernel) rfl (sp_within (d := d + 5) h (fun r4 h => ?_))
      show WP (Ct (d + 6)) 112 Post (29, [some (.ref 0), some (.int a1), some (.int a2), none, none, none], [.int r4], M)
      refine WP.br (.ifCond .ne 6, 3, (35, 0), .null) (by decide +kernel) rfl (fun c5 => ?_) (fun c5 => ?_)
      · replace h := h.2 c5
        refine WP.blk [(.iconst 1, 1, (0, 0), .int 1), (.istore_n 3, 1, (0, 0), .null), (.iconst 1, 1, (0, 0), .int 1), (.istore 4, 2, (0, 0), .null), (.aload_n 0, 1, (0, 0), .null), (.getfield 26, 3, (6, 2), .null), (.getfield 171, 3, (1, 7), .null), (.istore 5, 2, (0, 0), .null)] (G := True) (c' := (49, [some (.ref 0), some (.int a1), some (.int a2), some (.int 1), some (.int 1), some (.int (M 7 7))], [], M)) (by decide +kernel) rfl trivial ?_
        obtain ⟨n, h⟩ := h
        exact P_chance_49 hΦ n _ _ _ _ _ h
      · replace h := h.1 (Classical.not_not.mp c5)
        refine WP.blk [(.ldc 73, 2, (0, 0), .int (-1000001))] (G := True) (c' := (34, [some (.ref 0), some (.int a1), some (.int a2), none, none, none], [.int (-1000001)], M)) (by decide +kernel) rfl trivial ?_
        exact WP.ret (.ireturn, 1, (0, 0), .null) (rk := 1) (by decide +kernel) (by decide +kernel) rfl trivial (hΦ _ h)
  · replace h := h.1 (Classical.not_not.mp c1)
    refine WP.blk [(.ldc 142, 2, (0, 0), .int (-1000002))] (G := True) (c' := (12, [some (.ref 0), some (.int a1), some (.int a2), none, none, none], [.int (-1000002)], M)) (by decide +kernel) rfl trivial ?_
    exact WP.ret (.ireturn, 1, (0, 0), .null) (rk := 1) (by decide +kernel) (by decide +kernel) rfl trivial (hΦ _ h)
/-- GearRoad.shiftIfMay(LGearRoad$Bike;I)V -/
def S_shiftIfMay (M : Mm) (a1 : Int32) (Φ : Mm → Prop) : Prop := S_Bike_canShift 13 M a1 (fun r1 => ((r1 = 0 → Φ M) ∧ (¬ (r1 = 0) → S_Bike_shiftCog 13 M a1 (fun M3 => Φ M3))))
set_option maxRecDepth 100000 in
set_option maxHeartbeats 4000000 in
theorem sp_shiftIfMay {d : Nat} {Post : Option Value → Mm → Prop} {M : Mm} {a1 : Int32} {Φ : Mm → Prop} (h : S_shiftIfMay M a1 Φ) (hΦ : ∀ M1, Φ M1 → Post none M1) : Ct (d + 4) 117 [.ref 13, .int a1] M Post := by
  refine Ct.go (n := 2) (E := [some (.ref 13), some (.int a1)]) (by decide +kernel) (by simp [Value.category]) rfl ?_
  refine WP.blk [(.aload_n 0, 1, (0, 0), .null), (.iload_n 1, 1, (0, 0), .null)] (G := True) (c' := (2, [some (.ref 13), some (.int a1)], [.int a1, .ref 13], M)) (by decide +kernel) rfl trivial ?_
  refine WP.call (.invokevirtual 150, 3, (61, 2), .retAddr 1) (by decide +kernel) rfl (sp_Bike_canShift (d := d + 0) (by decide) h (fun r1 h => ?_))
  show WP (Ct (d + 3)) 117 Post (5, [some (.ref 13), some (.int a1)], [.int r1], M)
  refine WP.br (.ifCond .eq 8, 3, (13, 0), .null) (by decide +kernel) rfl (fun c2 => ?_) (fun c2 => ?_)
  · replace h := h.1 c2
    exact WP.ret (.return_, 1, (0, 0), .null) (rk := 0) (by decide +kernel) (by decide +kernel) rfl trivial (hΦ _ h)
  · replace h := h.2 c2
    refine WP.blk [(.aload_n 0, 1, (0, 0), .null), (.iload_n 1, 1, (0, 0), .null)] (G := True) (c' := (10, [some (.ref 13), some (.int a1)], [.int a1, .ref 13], M)) (by decide +kernel) rfl trivial ?_
    refine WP.call (.invokevirtual 153, 3, (63, 2), .retAddr 1) (by decide +kernel) rfl (sp_Bike_shiftCog (d := d + 0) (by decide) h (fun M3 h => ?_))
    show WP (Ct (d + 3)) 117 Post (13, [some (.ref 13), some (.int a1)], [], M3)
    exact WP.ret (.return_, 1, (0, 0), .null) (rk := 0) (by decide +kernel) (by decide +kernel) rfl trivial (hΦ _ h)
/-- GearRoad.shiftByDraw(LGearRoad$Bike;J)V -/
def D_shiftByDraw_26 (Φ : Mm → Prop) : Int64 × Int32 × Mm → Prop
  | (x1, x2, M) => ((x2 = 2 → (((lg_cmp (lrm x1 3) 0) = 0 → (((M 13 1) ≤ 0 → Φ M) ∧ (¬ ((M 13 1) ≤ 0) → ¬ (Int32.toInt64 (M 13 1)) = 0 ∧ (((Int64.toInt32 (lrm x1 (Int32.toInt64 (M 13 1)))) = (M 13 5) → Φ M) ∧ (¬ ((Int64.toInt32 (lrm x1 (Int32.toInt64 (M 13 1)))) = (M 13 5)) → S_Bike_shiftRing 13 M (Int64.toInt32 (lrm x1 (Int32.toInt64 (M 13 1)))) (fun M7 => Φ M7)))))) ∧ (¬ ((lg_cmp (lrm x1 3) 0) = 0) → Φ M))) ∧ (¬ (x2 = 2) → Φ M))
def D_shiftByDraw_16 (Φ : Mm → Prop) : Int64 × Int32 × Mm → Prop
  | (x1, x2, M) => ((x2 = 1 → S_shiftIfMay M (-1) (fun M4 => D_shiftByDraw_26 Φ (x1, x2, M4))) ∧ (¬ (x2 = 1) → D_shiftByDraw_26 Φ (x1, x2, M)))
def S_shiftByDraw (M : Mm) (a1 : Int64) (Φ : Mm → Prop) : Prop := (((Int64.toInt32 (lrm a1 4)) = 0 → S_shiftIfMay M 1 (fun M2 => D_shiftByDraw_16 Φ (a1, (Int64.toInt32 (lrm a1 4)), M2))) ∧ (¬ ((Int64.toInt32 (lrm a1 4)) = 0) → D_shiftByDraw_16 Φ (a1, (Int64.toInt32 (lrm a1 4)), M)))
set_option maxRecDepth 100000 in
set_option maxHeartbeats 4000000 in
theorem L_shiftByDraw_26 {d : Nat} {Post : Option Value → Mm → Prop} {Φ : Mm → Prop} (hΦ : ∀ M1, Φ M1 → Post none M1) : ∀ (x1 : Int64) (x2 : Int32) (M : Mm), D_shiftByDraw_26 Φ (x1, x2, M) → WP (Ct (d + 4)) 116 Post (26, [some (.ref 13), some (.long x1), none, some (.int x2), none], [], M) := by
  intro x1 x2 M h
  replace h : ((x2 = 2 → (((lg_cmp (lrm x1 3) 0) = 0 → (((M 13 1) ≤ 0 → Φ M) ∧ (¬ ((M 13 1) ≤ 0) → ¬ (Int32.toInt64 (M 13 1)) = 0 ∧ (((Int64.toInt32 (lrm x1 (Int32.toInt64 (M 13 1)))) = (M 13 5) → Φ M) ∧ (¬ ((Int64.toInt32 (lrm x1 (Int32.toInt64 (M 13 1)))) = (M 13 5)) → S_Bike_shiftRing 13 M (Int64.toInt32 (lrm x1 (Int32.toInt64 (M 13 1)))) (fun M7 => Φ M7)))))) ∧ (¬ ((lg_cmp (lrm x1 3) 0) = 0) → Φ M))) ∧ (¬ (x2 = 2) → Φ M)) := h
  refine WP.blk [(.iload_n 3, 1, (0, 0), .null), (.iconst 2, 1, (0, 0), .int 2)] (G := True) (c' := (28, [some (.ref 13), some (.long x1), none, some (.int x2), none], [.int 2, .int x2], M)) (by decide +kernel) rfl trivial ?_
  refine WP.br (.if_icmp .ne 45, 3, (73, 0), .null) (by decide +kernel) rfl (fun c3 => ?_) (fun c3 => ?_)
  · replace h := h.2 c3
    exact WP.ret (.return_, 1, (0, 0), .null) (rk := 0) (by decide +kernel) (by decide +kernel) rfl trivial (hΦ _ h)
  · replace h := h.1 (Classical.not_not.mp c3)
    refine WP.blk [(.lload_n 1, 1, (0, 0), .null), (.ldc2_w 328, 3, (0, 0), .long (3)), (.lrem, 1, (0, 0), .null), (.lconst 0, 1, (0, 0), .long 0), (.lcmp, 1, (0, 0), .null)] (G := ¬ (3 : Int64) = 0 ∧ True) (c' := (38, [some (.ref 13), some (.long x1), none, some (.int x2), none], [.int (lg_cmp (lrm x1 3) 0)], M)) (by decide +kernel) rfl ⟨(by decide), trivial⟩ ?_
    refine WP.br (.ifCond .ne 35, 3, (73, 0), .null) (by decide +kernel) rfl (fun c4 => ?_) (fun c4 => ?_)
    · replace h := h.2 c4
      exact WP.ret (.return_, 1, (0, 0), .null) (rk := 0) (by decide +kernel) (by decide +kernel) rfl trivial (hΦ _ h)
    · replace h := h.1 (Classical.not_not.mp c4)
      refine WP.blk [(.aload_n 0, 1, (0, 0), .null), (.getfield 302, 3, (1, 1), .null)] (G := True) (c' := (45, [some (.ref 13), some (.long x1), none, some (.int x2), none], [.int (M 13 1)], M)) (by decide +kernel) rfl trivial ?_
      refine WP.br (.ifCond .le 28, 3, (73, 0), .null) (by decide +kernel) rfl (fun c5 => ?_) (fun c5 => ?_)
      · replace h := h.1 c5
        exact WP.ret (.return_, 1, (0, 0), .null) (rk := 0) (by decide +kernel) (by decide +kernel) rfl trivial (hΦ _ h)
      · replace h := h.2 c5
        refine WP.blk [(.lload_n 1, 1, (0, 0), .null), (.aload_n 0, 1, (0, 0), .null), (.getfield 302, 3, (1, 1), .null), (.i2l, 1, (0, 0), .null), (.lrem, 1, (0, 0), .null), (.l2i, 1, (0, 0), .null), (.istore 4, 2, (0, 0), .null), (.iload 4, 2, (0, 0), .null), (.aload_n 0, 1, (0, 0), .null), (.getfield 159, 3, (1, 5), .null)] (G := ¬ (Int32.toInt64 (M 13 1)) = 0 ∧ True) (c' := (64, [some (.ref 13), some (.long x1), none, some (.int x2), some (.int (Int64.toInt32 (lrm x1 (Int32.toInt64 (M 13 1)))))], [.int (M 13 5), .int (Int64.toInt32 (lrm x1 (Int32.toInt64 (M 13 1))))], M)) (by decide +kernel) rfl ⟨h.1, trivial⟩ ?_
        replace h := h.2
        refine WP.br (.if_icmp .eq 9, 3, (73, 0), .null) (by decide +kernel) rfl (fun c6 => ?_) (fun c6 => ?_)
        · replace h := h.1 c6
          exact WP.ret (.return_, 1, (0, 0), .null) (rk := 0) (by decide +kernel) (by decide +kernel) rfl trivial (hΦ _ h)
        · replace h := h.2 c6
          refine WP.blk [(.aload_n 0, 1, (0, 0), .null), (.iload 4, 2, (0, 0), .null)] (G := True) (c' := (70, [some (.ref 13), some (.long x1), none, some (.int x2), some (.int (Int64.toInt32 (lrm x1 (Int32.toInt64 (M 13 1)))))], [.int (Int64.toInt32 (lrm x1 (Int32.toInt64 (M 13 1)))), .ref 13], M)) (by decide +kernel) rfl trivial ?_
          refine WP.call (.invokevirtual 165, 3, (66, 2), .retAddr 1) (by decide +kernel) rfl (sp_Bike_shiftRing (d := d + 1) (by decide) h (fun M7 h => ?_))
          show WP (Ct (d + 4)) 116 Post (73, [some (.ref 13), some (.long x1), none, some (.int x2), some (.int (Int64.toInt32 (lrm x1 (Int32.toInt64 (M 13 1)))))], [], M7)
          exact WP.ret (.return_, 1, (0, 0), .null) (rk := 0) (by decide +kernel) (by decide +kernel) rfl trivial (hΦ _ h)
set_option maxRecDepth 100000 in
set_option maxHeartbeats 4000000 in
theorem L_shiftByDraw_16 {d : Nat} {Post : Option Value → Mm → Prop} {Φ : Mm → Prop} (hΦ : ∀ M1, Φ M1 → Post none M1) : ∀ (x1 : Int64) (x2 : Int32) (M : Mm), D_shiftByDraw_16 Φ (x1, x2, M) → WP (Ct (d + 4)) 116 Post (16, [some (.ref 13), some (.long x1), none, some (.int x2), none], [], M) := by
  intro x1 x2 M h
  replace h : ((x2 = 1 → S_shiftIfMay M (-1) (fun M4 => D_shiftByDraw_26 Φ (x1, x2, M4))) ∧ (¬ (x2 = 1) → D_shiftByDraw_26 Φ (x1, x2, M))) := h
  refine WP.blk [(.iload_n 3, 1, (0, 0), .null), (.iconst 1, 1, (0, 0), .int 1)] (G := True) (c' := (18, [some (.ref 13), some (.long x1), none, some (.int x2), none], [.int 1, .int x2], M)) (by decide +kernel) rfl trivial ?_
  refine WP.br (.if_icmp .ne 8, 3, (26, 0), .null) (by decide +kernel) rfl (fun c3 => ?_) (fun c3 => ?_)
  · replace h := h.2 c3
    exact L_shiftByDraw_26 hΦ _ _ _ h
  · replace h := h.1 (Classical.not_not.mp c3)
    refine WP.blk [(.aload_n 0, 1, (0, 0), .null), (.iconst (-1), 1, (0, 0), .int (-1))] (G := True) (c' := (23, [some (.ref 13), some (.long x1), none, some (.int x2), none], [.int (-1), .ref 13], M)) (by decide +kernel) rfl trivial ?_
    refine WP.call (.invokestatic 324, 3, (117, 2), .null) (by decide +kernel) rfl (sp_shiftIfMay (d := d + 0) h (fun M4 h => ?_))
    show WP (Ct (d + 4)) 116 Post (26, [some (.ref 13), some (.long x1), none, some (.int x2), none], [], M4)
    exact L_shiftByDraw_26 hΦ _ _ _ h
set_option maxRecDepth 100000 in
set_option maxHeartbeats 4000000 in
theorem sp_shiftByDraw {d : Nat} {Post : Option Value → Mm → Prop} {M : Mm} {a1 : Int64} {Φ : Mm → Prop} (h : S_shiftByDraw M a1 Φ) (hΦ : ∀ M1, Φ M1 → Post none M1) : Ct (d + 5) 116 [.ref 13, .long a1] M Post := by
  refine Ct.go (n := 5) (E := [some (.ref 13), some (.long a1), none, none, none]) (by decide +kernel) (by simp [Value.category]) rfl ?_
  refine WP.blk [(.lload_n 1, 1, (0, 0), .null), (.ldc2_w 322, 3, (0, 0), .long (4)), (.lrem, 1, (0, 0), .null), (.l2i, 1, (0, 0), .null), (.istore_n 3, 1, (0, 0), .null), (.iload_n 3, 1, (0, 0), .null)] (G := ¬ (4 : Int64) = 0 ∧ True) (c' := (8, [some (.ref 13), some (.long a1), none, some (.int (Int64.toInt32 (lrm a1 4))), none], [.int (Int64.toInt32 (lrm a1 4))], M)) (by decide +kernel) rfl ⟨(by decide), trivial⟩ ?_
  refine WP.br (.ifCond .ne 8, 3, (16, 0), .null) (by decide +kernel) rfl (fun c1 => ?_) (fun c1 => ?_)
  · replace h := h.2 c1
    exact L_shiftByDraw_16 hΦ _ _ _ h
  · replace h := h.1 (Classical.not_not.mp c1)
    refine WP.blk [(.aload_n 0, 1, (0, 0), .null), (.iconst 1, 1, (0, 0), .int 1)] (G := True) (c' := (13, [some (.ref 13), some (.long a1), none, some (.int (Int64.toInt32 (lrm a1 4))), none], [.int 1, .ref 13], M)) (by decide +kernel) rfl trivial ?_
    refine WP.call (.invokestatic 324, 3, (117, 2), .null) (by decide +kernel) rfl (sp_shiftIfMay (d := d + 0) h (fun M2 h => ?_))
    show WP (Ct (d + 4)) 116 Post (16, [some (.ref 13), some (.long a1), none, some (.int (Int64.toInt32 (lrm a1 4))), none], [], M2)
    exact L_shiftByDraw_16 hΦ _ _ _ h
/-- GearRoad.goOn(LGearRoad$Bike;)I -/
def S_goOn (M : Mm) (Φ : Int32 → Mm → Prop) : Prop := (((M 13 7) < (M 13 3) → S_Bike_canRide 13 M (fun r2 => ((r2 = 0 → Φ 0 M) ∧ (¬ (r2 = 0) → S_Bike_rideOn 13 M (fun r4 M4 => Φ 1 M4))))) ∧ (¬ ((M 13 7) < (M 13 3)) → S_Bike_turnAbout 13 M (fun M5 => Φ 0 M5)))
set_option maxRecDepth 100000 in
set_option maxHeartbeats 4000000 in
theorem sp_goOn {d : Nat} {Post : Option Value → Mm → Prop} {M : Mm} {Φ : Int32 → Mm → Prop} (h : S_goOn M Φ) (hΦ : ∀ r M1, Φ r M1 → Post (some (.int r)) M1) : Ct (d + 7) 118 [.ref 13] M Post := by
  refine Ct.go (n := 1) (E := [some (.ref 13)]) (by decide +kernel) (by simp [Value.category]) rfl ?_
  refine WP.blk [(.aload_n 0, 1, (0, 0), .null), (.getfield 171, 3, (1, 7), .null), (.aload_n 0, 1, (0, 0), .null), (.getfield 262, 3, (1, 3), .null)] (G := True) (c' := (8, [some (.ref 13)], [.int (M 13 3), .int (M 13 7)], M)) (by decide +kernel) rfl trivial ?_
  refine WP.br (.if_icmp .lt 9, 3, (17, 0), .null) (by decide +kernel) rfl (fun c1 => ?_) (fun c1 => ?_)
  · replace h := h.1 c1
    refine WP.blk [(.aload_n 0, 1, (0, 0), .null)] (G := True) (c' := (18, [some (.ref 13)], [.ref 13], M)) (by decide +kernel) rfl trivial ?_
    refine WP.call (.invokevirtual 138, 3, (44, 1), .retAddr 1) (by decide +kernel) rfl (sp_Bike_canRide (d := d + 0) (by decide) h (fun r2 h => ?_))
    show WP (Ct (d + 6)) 118 Post (21, [some (.ref 13)], [.int r2], M)
    refine WP.br (.ifCond .ne 5, 3, (26, 0), .null) (by decide +kernel) rfl (fun c3 => ?_) (fun c3 => ?_)
    · replace h := h.2 c3
      refine WP.blk [(.aload_n 0, 1, (0, 0), .null)] (G := True) (c' := (27, [some (.ref 13)], [.ref 13], M)) (by decide +kernel) rfl trivial ?_
      refine WP.call (.invokevirtual 146, 3, (55, 1), .retAddr 1) (by decide +kernel) rfl (sp_Bike_rideOn (d := d + 1) (by decide) h (fun r4 M4 h => ?_))
      show WP (Ct (d + 6)) 118 Post (30, [some (.ref 13)], [.int r4], M4)
      refine WP.blk [(.pop, 1, (0, 0), .null), (.iconst 1, 1, (0, 0), .int 1)] (G := True) (c' := (32, [some (.ref 13)], [.int 1], M4)) (by decide +kernel) rfl trivial ?_
      exact WP.ret (.ireturn, 1, (0, 0), .null) (rk := 1) (by decide +kernel) (by decide +kernel) rfl trivial (hΦ _ _ h)
    · replace h := h.1 (Classical.not_not.mp c3)
      refine WP.blk [(.iconst 0, 1, (0, 0), .int 0)] (G := True) (c' := (25, [some (.ref 13)], [.int 0], M)) (by decide +kernel) rfl trivial ?_
      exact WP.ret (.ireturn, 1, (0, 0), .null) (rk := 1) (by decide +kernel) (by decide +kernel) rfl trivial (hΦ _ _ h)
  · replace h := h.2 c1
    refine WP.blk [(.aload_n 0, 1, (0, 0), .null)] (G := True) (c' := (12, [some (.ref 13)], [.ref 13], M)) (by decide +kernel) rfl trivial ?_
    refine WP.call (.invokevirtual 168, 3, (68, 1), .retAddr 1) (by decide +kernel) rfl (sp_Bike_turnAbout (d := d + 5) (by decide) h (fun M5 h => ?_))
    show WP (Ct (d + 6)) 118 Post (15, [some (.ref 13)], [], M5)
    refine WP.blk [(.iconst 0, 1, (0, 0), .int 0)] (G := True) (c' := (16, [some (.ref 13)], [.int 0], M5)) (by decide +kernel) rfl trivial ?_
    exact WP.ret (.ireturn, 1, (0, 0), .null) (rk := 1) (by decide +kernel) (by decide +kernel) rfl trivial (hΦ _ _ h)
/-- GearRoad.drawn(III)I -/
def D_drawn_75 (Φ : Int32 → Mm → Prop) (rec_75 : Int32 × Int32 × Int32 × Int64 × Int32 × Mm → Prop) : Int32 × Int32 × Int32 × Int64 × Int32 × Mm → Prop
  | (x1, x2, x3, x4, x5, M) => ((x1 ≤ x5 → ((x2 = 0 → Φ (M 13 8) M) ∧ (¬ (x2 = 0) → Φ x3 M))) ∧ (¬ (x1 ≤ x5) → S_shiftByDraw M (lrm (x4 * 16807) 2147483647) (fun M8 => S_goOn M8 (fun r9 M9 => rec_75 (x1, x2, (x3 + r9), (lrm (x4 * 16807) 2147483647), (x5 + 1), M9)))))
def S_drawn (M : Mm) (a1 : Int32) (a2 : Int32) (a3 : Int32) (Φ : Int32 → Mm → Prop) : Prop := (((M 7 0) = 0 → Φ (-1000002) M) ∧ (¬ ((M 7 0) = 0) → S_within M a1 0 60 (fun r2 => ((r2 = 0 → Φ (-1000001) M) ∧ (¬ (r2 = 0) → S_within M a2 1 999999 (fun r4 => ((r4 = 0 → Φ (-1000001) M) ∧ (¬ (r4 = 0) → S_within M a3 0 1 (fun r6 => ((r6 = 0 → Φ (-1000001) M) ∧ (¬ (r6 = 0) → S_Bike_takeFrom 13 7 M (fun M8 => (∀ M9, M9 = mu M8 13 8 0 → ∃ n, lp (D_drawn_75 Φ) n (a1, a3, 0, (Int32.toInt64 a2), 0, M9))))))))))))))
set_option maxRecDepth 100000 in
set_option maxHeartbeats 4000000 in
theorem L_drawn_75 {d : Nat} {Post : Option Value → Mm → Prop} {rec_75 : Int32 × Int32 × Int32 × Int64 × Int32 × Mm → Prop} {Φ : Int32 → Mm → Prop} (hΦ : ∀ r M1, Φ r M1 → Post (some (.int r)) M1) (hrec_75 : ∀ (x1 : Int32) (x2 : Int32) (x3 : Int32) (x4 : Int64) (x5 : Int32) (M : Mm), rec_75 (x1, x2, x3, x4, x5, M) → WP (Ct (d + 7)) 115 Post (75, [some (.ref 0), some (.int x1), none, some (.int x2), some (.int x3), some (.long x4), none, some (.int x5)], [], M)) : ∀ (x1 : Int32) (x2 : Int32) (x3 : Int32) (x4 : Int64) (x5 : Int32) (M : Mm), D_drawn_75 Φ rec_75 (x1, x2, x3, x4, x5, M) → WP (Ct (d + 7)) 115 Post (75, [some (.ref 0), some (.int x1), none, some (.int x2), some (.int x3), some (.long x4), none, some (.int x5)], [], M) := by
  intro x1 x2 x3 x4 x5 M h
  replace h : ((x1 ≤ x5 → ((x2 = 0 → Φ (M 13 8) M) ∧ (¬ (x2 = 0) → Φ x3 M))) ∧ (¬ (x1 ≤ x5) → S_shiftByDraw M (lrm (x4 * 16807) 2147483647) (fun M8 => S_goOn M8 (fun r9 M9 => rec_75 (x1, x2, (x3 + r9), (lrm (x4 * 16807) 2147483647), (x5 + 1), M9))))) := h
  refine WP.blk [(.iload 7, 2, (0, 0), .null), (.iload_n 1, 1, (0, 0), .null)] (G := True) (c' := (78, [some (.ref 0), some (.int x1), none, some (.int x2), some (.int x3), some (.long x4), none, some (.int x5)], [.int x1, .int x5], M)) (by decide +kernel) rfl trivial ?_
  refine WP.br (.if_icmp .ge 42, 3, (120, 0), .null) (by decide +kernel) rfl (fun c6 => ?_) (fun c6 => ?_)
  · replace h := h.1 c6
    refine WP.blk [(.iload_n 3, 1, (0, 0), .null)] (G := True) (c' := (121, [some (.ref 0), some (.int x1), none, some (.int x2), some (.int x3), some (.long x4), none, some (.int x5)], [.int x2], M)) (by decide +kernel) rfl trivial ?_
    refine WP.br (.ifCond .ne 13, 3, (134, 0), .null) (by decide +kernel) rfl (fun c7 => ?_) (fun c7 => ?_)
    · replace h := h.2 c7
      refine WP.blk [(.iload 4, 2, (0, 0), .null)] (G := True) (c' := (136, [some (.ref 0), some (.int x1), none, some (.int x2), some (.int x3), some (.long x4), none, some (.int x5)], [.int x3], M)) (by decide +kernel) rfl trivial ?_
      exact WP.ret (.ireturn, 1, (0, 0), .null) (rk := 1) (by decide +kernel) (by decide +kernel) rfl trivial (hΦ _ _ h)
    · replace h := h.1 (Classical.not_not.mp c7)
      refine WP.blk [(.aload_n 0, 1, (0, 0), .null), (.getfield 30, 3, (6, 3), .null), (.getfield 272, 3, (1, 8), .null), (.goto 5, 3, (136, 0), .null)] (G := True) (c' := (136, [some (.ref 0), some (.int x1), none, some (.int x2), some (.int x3), some (.long x4), none, some (.int x5)], [.int (M 13 8)], M)) (by decide +kernel) rfl trivial ?_
      exact WP.ret (.ireturn, 1, (0, 0), .null) (rk := 1) (by decide +kernel) (by decide +kernel) rfl trivial (hΦ _ _ h)
  · replace h := h.2 c6
    refine WP.blk [(.lload 5, 2, (0, 0), .null), (.ldc2_w 275, 3, (0, 0), .long (16807)), (.lmul, 1, (0, 0), .null), (.ldc2_w 277, 3, (0, 0), .long (2147483647)), (.lrem, 1, (0, 0), .null), (.lstore 5, 2, (0, 0), .null), (.aload_n 0, 1, (0, 0), .null), (.getfield 30, 3, (6, 3), .null), (.lload 5, 2, (0, 0), .null)] (G := ¬ (2147483647 : Int64) = 0 ∧ True) (c' := (99, [some (.ref 0), some (.int x1), none, some (.int x2), some (.int x3), some (.long (lrm (x4 * 16807) 2147483647)), none, some (.int x5)], [.long (lrm (x4 * 16807) 2147483647), .ref 13], M)) (by decide +kernel) rfl ⟨(by decide), trivial⟩ ?_
    refine WP.call (.invokestatic 279, 3, (116, 2), .null) (by decide +kernel) rfl (sp_shiftByDraw (d := d + 2) h (fun M8 h => ?_))
    show WP (Ct (d + 7)) 115 Post (102, [some (.ref 0), some (.int x1), none, some (.int x2), some (.int x3), some (.long (lrm (x4 * 16807) 2147483647)), none, some (.int x5)], [], M8)
    refine WP.blk [(.iload 4, 2, (0, 0), .null), (.aload_n 0, 1, (0, 0), .null), (.getfield 30, 3, (6, 3), .null)] (G := True) (c' := (108, [some (.ref 0), some (.int x1), none, some (.int x2), some (.int x3), some (.long (lrm (x4 * 16807) 2147483647)), none, some (.int x5)], [.ref 13, .int x3], M8)) (by decide +kernel) rfl trivial ?_
    refine WP.call (.invokestatic 283, 3, (118, 1), .null) (by decide +kernel) rfl (sp_goOn (d := d + 0) h (fun r9 M9 h => ?_))
    show WP (Ct (d + 7)) 115 Post (111, [some (.ref 0), some (.int x1), none, some (.int x2), some (.int x3), some (.long (lrm (x4 * 16807) 2147483647)), none, some (.int x5)], [.int r9, .int x3], M9)
    refine WP.blk [(.iadd, 1, (0, 0), .null), (.istore 4, 2, (0, 0), .null), (.iinc 7 1, 3, (0, 0), .int 1), (.goto (-42), 3, (75, 0), .null)] (G := True) (c' := (75, [some (.ref 0), some (.int x1), none, some (.int x2), some (.int (x3 + r9)), some (.long (lrm (x4 * 16807) 2147483647)), none, some (.int (x5 + 1))], [], M9)) (by decide +kernel) rfl trivial ?_
    exact hrec_75 _ _ _ _ _ _ h
theorem P_drawn_75 {d : Nat} {Post : Option Value → Mm → Prop} {Φ : Int32 → Mm → Prop} (hΦ : ∀ r M1, Φ r M1 → Post (some (.int r)) M1) : ∀ (n : Nat) (x1 : Int32) (x2 : Int32) (x3 : Int32) (x4 : Int64) (x5 : Int32) (M : Mm), lp (D_drawn_75 Φ) n (x1, x2, x3, x4, x5, M) → WP (Ct (d + 7)) 115 Post (75, [some (.ref 0), some (.int x1), none, some (.int x2), some (.int x3), some (.long x4), none, some (.int x5)], [], M)
  | 0, x1, x2, x3, x4, x5, M, h => absurd h (by simp [lp])
  | n + 1, x1, x2, x3, x4, x5, M, h => L_drawn_75 hΦ (P_drawn_75 hΦ n) x1 x2 x3 x4 x5 M h
set_option maxRecDepth 100000 in
set_option maxHeartbeats 4000000 in
theorem sp_drawn {d : Nat} {Post : Option Value → Mm → Prop} {M : Mm} {a1 : Int32} {a2 : Int32} {a3 : Int32} {Φ : Int32 → Mm → Prop} (h : S_drawn M a1 a2 a3 Φ) (hΦ : ∀ r M1, Φ r M1 → Post (some (.int r)) M1) : Ct (d + 8) 115 [.ref 0, .int a1, .int a2, .int a3] M Post := by
  refine Ct.go (n := 8) (E := [some (.ref 0), some (.int a1), some (.int a2), some (.int a3), none, none, none, none]) (by decide +kernel) (by simp [Value.category]) rfl ?_
  refine WP.blk [(.aload_n 0, 1, (0, 0), .null), (.getfield 26, 3, (6, 2), .null), (.getfield 134, 3, (1, 0), .null)] (G := True) (c' := (7, [some (.ref 0), some (.int a1), some (.int a2), some (.int a3), none, none, none, none], [.int (M 7 0)], M)) (by decide +kernel) rfl trivial ?_
  refine WP.br (.ifCond .ne 6, 3, (13, 0), .null) (by decide +kernel) rfl (fun c1 => ?_) (fun c1 => ?_)
  · replace h := h.2 c1
    refine WP.blk [(.iload_n 1, 1, (0, 0), .null), (.iconst 0, 1, (0, 0), .int 0), (.bipush 60, 2, (0, 0), .int 60)] (G := True) (c' := (17, [some (.ref 0), some (.int a1), some (.int a2), some (.int a3), none, none, none, none], [.int 60, .int 0, .int a1], M)) (by decide +kernel) rfl trivial ?_
    refine WP.call (.invokestatic 69, 3, (10, 3), .null) (by decide +kernel) rfl (sp_within (d := d + 6) h (fun r2 h => ?_))
    show WP (Ct (d + 7)) 115 Post (20, [some (.ref 0), some (.int a1), some (.int a2), some (.int a3), none, none, none, none], [.int r2], M)
    refine WP.br (.ifCond .eq 23, 3, (43, 0), .null) (by decide +kernel) rfl (fun c3 => ?_) (fun c3 => ?_)
    · replace h := h.1 c3
      refine WP.blk [(.ldc 73, 2, (0, 0), .int (-1000001))] (G := True) (c' := (45, [some (.ref 0), some (.int a1), some (.int a2), some (.int a3), none, none, none, none], [.int (-1000001)], M)) (by decide +kernel) rfl trivial ?_
      exact WP.ret (.ireturn, 1, (0, 0), .null) (rk := 1) (by decide +kernel) (by decide +kernel) rfl trivial (hΦ _ _ h)
    · replace h := h.2 c3
      refine WP.blk [(.iload_n 2, 1, (0, 0), .null), (.iconst 1, 1, (0, 0), .int 1), (.ldc_w 271, 3, (0, 0), .int (999999))] (G := True) (c' := (28, [some (.ref 0), some (.int a1), some (.int a2), some (.int a3), none, none, none, none], [.int 999999, .int 1, .int a2], M)) (by decide +kernel) rfl trivial ?_
      refine WP.call (.invokestatic 69, 3, (10, 3), .null) (by decide +kernel) rfl (sp_within (d := d + 6) h (fun r4 h => ?_))
      show WP (Ct (d + 7)) 115 Post (31, [some (.ref 0), some (.int a1), some (.int a2), some (.int a3), none, none, none, none], [.int r4], M)
      refine WP.br (.ifCond .eq 12, 3, (43, 0), .null) (by decide +kernel) rfl (fun c5 => ?_) (fun c5 => ?_)
      · replace h := h.1 c5
        refine WP.blk [(.ldc 73, 2, (0, 0), .int (-1000001))] (G := True) (c' := (45, [some (.ref 0), some (.int a1), some (.int a2), some (.int a3), none, none, none, none], [.int (-1000001)], M)) (by decide +kernel) rfl trivial ?_
        exact WP.ret (.ireturn, 1, (0, 0), .null) (rk := 1) (by decide +kernel) (by decide +kernel) rfl trivial (hΦ _ _ h)
      · replace h := h.2 c5
        refine WP.blk [(.iload_n 3, 1, (0, 0), .null), (.iconst 0, 1, (0, 0), .int 0), (.iconst 1, 1, (0, 0), .int 1)] (G := True) (c' := (37, [some (.ref 0), some (.int a1), some (.int a2), some (.int a3), none, none, none, none], [.int 1, .int 0, .int a3], M)) (by decide +kernel) rfl trivial ?_
        refine WP.call (.invokestatic 69, 3, (10, 3), .null) (by decide +kernel) rfl (sp_within (d := d + 6) h (fun r6 h => ?_))
        show WP (Ct (d + 7)) 115 Post (40, [some (.ref 0), some (.int a1), some (.int a2), some (.int a3), none, none, none, none], [.int r6], M)
        refine WP.br (.ifCond .ne 6, 3, (46, 0), .null) (by decide +kernel) rfl (fun c7 => ?_) (fun c7 => ?_)
        · replace h := h.2 c7
          refine WP.blk [(.aload_n 0, 1, (0, 0), .null), (.getfield 30, 3, (6, 3), .null), (.aload_n 0, 1, (0, 0), .null), (.getfield 26, 3, (6, 2), .null)] (G := True) (c' := (54, [some (.ref 0), some (.int a1), some (.int a2), some (.int a3), none, none, none, none], [.ref 7, .ref 13], M)) (by decide +kernel) rfl trivial ?_
          refine WP.call (.invokevirtual 125, 3, (40, 2), .retAddr 1) (by decide +kernel) rfl (sp_Bike_takeFrom (d := d + 6) (by decide) h (fun M8 h => ?_))
          show WP (Ct (d + 7)) 115 Post (57, [some (.ref 0), some (.int a1), some (.int a2), some (.int a3), none, none, none, none], [], M8)
          refine WP.blk [(.aload_n 0, 1, (0, 0), .null), (.getfield 30, 3, (6, 3), .null), (.iconst 0, 1, (0, 0), .int 0), (.putfield 272, 3, (1, 8), .null)] (G := True) (c' := (65, [some (.ref 0), some (.int a1), some (.int a2), some (.int a3), none, none, none, none], [], (mu M8 13 8 0))) (by decide +kernel) rfl trivial ?_
          replace h := h (mu M8 13 8 0) rfl
          generalize (mu M8 13 8 0) = M9 at h ⊢
          refine WP.blk [(.iconst 0, 1, (0, 0), .int 0), (.istore 4, 2, (0, 0), .null), (.iload_n 2, 1, (0, 0), .null), (.i2l, 1, (0, 0), .null), (.lstore 5, 2, (0, 0), .null), (.iconst 0, 1, (0, 0), .int 0), (.istore 7, 2, (0, 0), .null)] (G := True) (c' := (75, [some (.ref 0), some (.int a1), some (.int a2), some (.int a3), some (.int 0), some (.long (Int32.toInt64 a2)), none, some (.int 0)], [], M9)) (by decide +kernel) rfl trivial ?_
          refine WP.fgt [some (.ref 0), some (.int a1), none, some (.int a3), some (.int 0), some (.long (Int32.toInt64 a2)), none, some (.int 0)] (by simp [fgt]) ?_
          obtain ⟨n, h⟩ := h
          exact P_drawn_75 hΦ n _ _ _ _ _ _ h
        · replace h := h.1 (Classical.not_not.mp c7)
          refine WP.blk [(.ldc 73, 2, (0, 0), .int (-1000001))] (G := True) (c' := (45, [some (.ref 0), some (.int a1), some (.int a2), some (.int a3), none, none, none, none], [.int (-1000001)], M)) (by decide +kernel) rfl trivial ?_
          exact WP.ret (.ireturn, 1, (0, 0), .null) (rk := 1) (by decide +kernel) (by decide +kernel) rfl trivial (hΦ _ _ h)
  · replace h := h.1 (Classical.not_not.mp c1)
    refine WP.blk [(.ldc 142, 2, (0, 0), .int (-1000002))] (G := True) (c' := (12, [some (.ref 0), some (.int a1), some (.int a2), some (.int a3), none, none, none, none], [.int (-1000002)], M)) (by decide +kernel) rfl trivial ?_
    exact WP.ret (.ireturn, 1, (0, 0), .null) (rk := 1) (by decide +kernel) (by decide +kernel) rfl trivial (hΦ _ _ h)
/-- GearRoad.image(I)I -/
def S_image (M : Mm) (a1 : Int32) (Φ : Int32 → Mm → Prop) : Prop := S_within M a1 0 1 (fun r1 => ((r1 = 0 → Φ (-1000001) M) ∧ (¬ (r1 = 0) → (((M 7 0) = 0 → Φ (-1000002) M) ∧ (¬ ((M 7 0) = 0) → ((a1 = 0 ∧ S_Bike_takeFrom 20 7 M (fun M5 => Φ 1 M5)) ∨ (a1 = 1 ∧ S_Bike_takeFrom 26 7 M (fun M6 => Φ 1 M6))))))))
set_option maxRecDepth 100000 in
set_option maxHeartbeats 4000000 in
theorem sp_image {d : Nat} {Post : Option Value → Mm → Prop} {M : Mm} {a1 : Int32} {Φ : Int32 → Mm → Prop} (h : S_image M a1 Φ) (hΦ : ∀ r M1, Φ r M1 → Post (some (.int r)) M1) : Ct (d + 2) 119 [.ref 0, .int a1] M Post := by
  refine Ct.go (n := 2) (E := [some (.ref 0), some (.int a1)]) (by decide +kernel) (by simp [Value.category]) rfl ?_
  refine WP.blk [(.iload_n 1, 1, (0, 0), .null), (.iconst 0, 1, (0, 0), .int 0), (.iconst 1, 1, (0, 0), .int 1)] (G := True) (c' := (3, [some (.ref 0), some (.int a1)], [.int 1, .int 0, .int a1], M)) (by decide +kernel) rfl trivial ?_
  refine WP.call (.invokestatic 69, 3, (10, 3), .null) (by decide +kernel) rfl (sp_within (d := d + 0) h (fun r1 h => ?_))
  show WP (Ct (d + 1)) 119 Post (6, [some (.ref 0), some (.int a1)], [.int r1], M)
  refine WP.br (.ifCond .ne 6, 3, (12, 0), .null) (by decide +kernel) rfl (fun c2 => ?_) (fun c2 => ?_)
  · replace h := h.2 c2
    refine WP.blk [(.aload_n 0, 1, (0, 0), .null), (.getfield 26, 3, (6, 2), .null), (.getfield 134, 3, (1, 0), .null)] (G := True) (c' := (19, [some (.ref 0), some (.int a1)], [.int (M 7 0)], M)) (by decide +kernel) rfl trivial ?_
    refine WP.br (.ifCond .ne 6, 3, (25, 0), .null) (by decide +kernel) rfl (fun c3 => ?_) (fun c3 => ?_)
    · replace h := h.2 c3
      refine WP.blk [(.aload_n 0, 1, (0, 0), .null), (.getfield 33, 3, (6, 4), .null), (.iload_n 1, 1, (0, 0), .null)] (G := True) (c' := (30, [some (.ref 0), some (.int a1)], [.int a1, .ref 19], M)) (by decide +kernel) rfl trivial ?_
      rcases h with ⟨e4, hz⟩ | ⟨e4, hz⟩
      · subst e4
        have h := hz
        refine WP.blk [(.aaload, 1, (0, 0), .null)] (G := vp_in 0 2 ∧ True) (c' := (31, [some (.ref 0), some (.int 0)], [.ref 20], M)) (by decide +kernel) rfl ⟨vp_lit (by decide), trivial⟩ ?_
        refine WP.blk [(.aload_n 0, 1, (0, 0), .null), (.getfield 26, 3, (6, 2), .null)] (G := True) (c' := (35, [some (.ref 0), some (.int 0)], [.ref 7, .ref 20], M)) (by decide +kernel) rfl trivial ?_
        refine WP.call (.invokevirtual 125, 3, (40, 2), .retAddr 1) (by decide +kernel) rfl (sp_Bike_takeFrom (d := d + 0) (by decide) h (fun M5 h => ?_))
        show WP (Ct (d + 1)) 119 Post (38, [some (.ref 0), some (.int 0)], [], M5)
        refine WP.blk [(.iconst 1, 1, (0, 0), .int 1)] (G := True) (c' := (39, [some (.ref 0), some (.int 0)], [.int 1], M5)) (by decide +kernel) rfl trivial ?_
        exact WP.ret (.ireturn, 1, (0, 0), .null) (rk := 1) (by decide +kernel) (by decide +kernel) rfl trivial (hΦ _ _ h)
      · subst e4
        have h := hz
        refine WP.blk [(.aaload, 1, (0, 0), .null)] (G := vp_in 1 2 ∧ True) (c' := (31, [some (.ref 0), some (.int 1)], [.ref 26], M)) (by decide +kernel) rfl ⟨vp_lit (by decide), trivial⟩ ?_
        refine WP.blk [(.aload_n 0, 1, (0, 0), .null), (.getfield 26, 3, (6, 2), .null)] (G := True) (c' := (35, [some (.ref 0), some (.int 1)], [.ref 7, .ref 26], M)) (by decide +kernel) rfl trivial ?_
        refine WP.call (.invokevirtual 125, 3, (40, 2), .retAddr 1) (by decide +kernel) rfl (sp_Bike_takeFrom (d := d + 0) (by decide) h (fun M6 h => ?_))
        show WP (Ct (d + 1)) 119 Post (38, [some (.ref 0), some (.int 1)], [], M6)
        refine WP.blk [(.iconst 1, 1, (0, 0), .int 1)] (G := True) (c' := (39, [some (.ref 0), some (.int 1)], [.int 1], M6)) (by decide +kernel) rfl trivial ?_
        exact WP.ret (.ireturn, 1, (0, 0), .null) (rk := 1) (by decide +kernel) (by decide +kernel) rfl trivial (hΦ _ _ h)
    · replace h := h.1 (Classical.not_not.mp c3)
      refine WP.blk [(.ldc 142, 2, (0, 0), .int (-1000002))] (G := True) (c' := (24, [some (.ref 0), some (.int a1)], [.int (-1000002)], M)) (by decide +kernel) rfl trivial ?_
      exact WP.ret (.ireturn, 1, (0, 0), .null) (rk := 1) (by decide +kernel) (by decide +kernel) rfl trivial (hΦ _ _ h)
  · replace h := h.1 (Classical.not_not.mp c2)
    refine WP.blk [(.ldc 73, 2, (0, 0), .int (-1000001))] (G := True) (c' := (11, [some (.ref 0), some (.int a1)], [.int (-1000001)], M)) (by decide +kernel) rfl trivial ?_
    exact WP.ret (.ireturn, 1, (0, 0), .null) (rk := 1) (by decide +kernel) (by decide +kernel) rfl trivial (hΦ _ _ h)
/-- GearRoad.restore(I)I -/
def S_restore (M : Mm) (a1 : Int32) (Φ : Int32 → Mm → Prop) : Prop := S_within M a1 0 1 (fun r1 => ((r1 = 0 → Φ (-1000001) M) ∧ (¬ (r1 = 0) → ((a1 = 0 ∧ (((M 20 0) = 0 → Φ (-1000002) M) ∧ (¬ ((M 20 0) = 0) → S_Bike_takeFrom 7 20 M (fun M5 => S_Acts_forget M5 (fun M6 => Φ 1 M6))))) ∨ (a1 = 1 ∧ (((M 26 0) = 0 → Φ (-1000002) M) ∧ (¬ ((M 26 0) = 0) → S_Bike_takeFrom 7 26 M (fun M8 => S_Acts_forget M8 (fun M9 => Φ 1 M9)))))))))
set_option maxRecDepth 100000 in
set_option maxHeartbeats 4000000 in
theorem sp_restore {d : Nat} {Post : Option Value → Mm → Prop} {M : Mm} {a1 : Int32} {Φ : Int32 → Mm → Prop} (h : S_restore M a1 Φ) (hΦ : ∀ r M1, Φ r M1 → Post (some (.int r)) M1) : Ct (d + 2) 120 [.ref 0, .int a1] M Post := by
  refine Ct.go (n := 2) (E := [some (.ref 0), some (.int a1)]) (by decide +kernel) (by simp [Value.category]) rfl ?_
  refine WP.blk [(.iload_n 1, 1, (0, 0), .null), (.iconst 0, 1, (0, 0), .int 0), (.iconst 1, 1, (0, 0), .int 1)] (G := True) (c' := (3, [some (.ref 0), some (.int a1)], [.int 1, .int 0, .int a1], M)) (by decide +kernel) rfl trivial ?_
  refine WP.call (.invokestatic 69, 3, (10, 3), .null) (by decide +kernel) rfl (sp_within (d := d + 0) h (fun r1 h => ?_))
  show WP (Ct (d + 1)) 120 Post (6, [some (.ref 0), some (.int a1)], [.int r1], M)
  refine WP.br (.ifCond .ne 6, 3, (12, 0), .null) (by decide +kernel) rfl (fun c2 => ?_) (fun c2 => ?_)
  · replace h := h.2 c2
    refine WP.blk [(.aload_n 0, 1, (0, 0), .null), (.getfield 33, 3, (6, 4), .null), (.iload_n 1, 1, (0, 0), .null)] (G := True) (c' := (17, [some (.ref 0), some (.int a1)], [.int a1, .ref 19], M)) (by decide +kernel) rfl trivial ?_
    rcases h with ⟨e3, hz⟩ | ⟨e3, hz⟩
    · subst e3
      have h := hz
      refine WP.blk [(.aaload, 1, (0, 0), .null)] (G := vp_in 0 2 ∧ True) (c' := (18, [some (.ref 0), some (.int 0)], [.ref 20], M)) (by decide +kernel) rfl ⟨vp_lit (by decide), trivial⟩ ?_
      refine WP.blk [(.getfield 134, 3, (1, 0), .null)] (G := True) (c' := (21, [some (.ref 0), some (.int 0)], [.int (M 20 0)], M)) (by decide +kernel) rfl trivial ?_
      refine WP.br (.ifCond .ne 6, 3, (27, 0), .null) (by decide +kernel) rfl (fun c4 => ?_) (fun c4 => ?_)
      · replace h := h.2 c4
        refine WP.blk [(.aload_n 0, 1, (0, 0), .null), (.getfield 26, 3, (6, 2), .null), (.aload_n 0, 1, (0, 0), .null), (.getfield 33, 3, (6, 4), .null), (.iload_n 1, 1, (0, 0), .null)] (G := True) (c' := (36, [some (.ref 0), some (.int 0)], [.int 0, .ref 19, .ref 7], M)) (by decide +kernel) rfl trivial ?_
        refine WP.blk [(.aaload, 1, (0, 0), .null)] (G := vp_in 0 2 ∧ True) (c' := (37, [some (.ref 0), some (.int 0)], [.ref 20, .ref 7], M)) (by decide +kernel) rfl ⟨vp_lit (by decide), trivial⟩ ?_
        refine WP.call (.invokevirtual 125, 3, (40, 2), .retAddr 1) (by decide +kernel) rfl (sp_Bike_takeFrom (d := d + 0) (by decide) h (fun M5 h => ?_))
        show WP (Ct (d + 1)) 120 Post (40, [some (.ref 0), some (.int 0)], [], M5)
        refine WP.blk [(.aload_n 0, 1, (0, 0), .null), (.getfield 40, 3, (6, 5), .null)] (G := True) (c' := (44, [some (.ref 0), some (.int 0)], [.ref 32], M5)) (by decide +kernel) rfl trivial ?_
        refine WP.call (.invokevirtual 128, 3, (41, 1), .retAddr 0) (by decide +kernel) rfl (sp_Acts_forget (d := d + 0) h (fun M6 h => ?_))
        show WP (Ct (d + 1)) 120 Post (47, [some (.ref 0), some (.int 0)], [], M6)
        refine WP.blk [(.iconst 1, 1, (0, 0), .int 1)] (G := True) (c' := (48, [some (.ref 0), some (.int 0)], [.int 1], M6)) (by decide +kernel) rfl trivial ?_
        exact WP.ret (.ireturn, 1, (0, 0), .null) (rk := 1) (by decide +kernel) (by decide +kernel) rfl trivial (hΦ _ _ h)
      · replace h := h.1 (Classical.not_not.mp c4)
        refine WP.blk [(.ldc 142, 2, (0, 0), .int (-1000002))] (G := True) (c' := (26, [some (.ref 0), some (.int 0)], [.int (-1000002)], M)) (by decide +kernel) rfl trivial ?_
        exact WP.ret (.ireturn, 1, (0, 0), .null) (rk := 1) (by decide +kernel) (by decide +kernel) rfl trivial (hΦ _ _ h)
    · subst e3
      have h := hz
      refine WP.blk [(.aaload, 1, (0, 0), .null)] (G := vp_in 1 2 ∧ True) (c' := (18, [some (.ref 0), some (.int 1)], [.ref 26], M)) (by decide +kernel) rfl ⟨vp_lit (by decide), trivial⟩ ?_
      refine WP.blk [(.getfield 134, 3, (1, 0), .null)] (G := True) (c' := (21, [some (.ref 0), some (.int 1)], [.int (M 26 0)], M)) (by decide +kernel) rfl trivial ?_
      refine WP.br (.ifCond .ne 6, 3, (27, 0), .null) (by decide +kernel) rfl (fun c7 => ?_) (fun c7 => ?_)
      · replace h := h.2 c7
        refine WP.blk [(.aload_n 0, 1, (0, 0), .null), (.getfield 26, 3, (6, 2), .null), (.aload_n 0, 1, (0, 0), .null), (.getfield 33, 3, (6, 4), .null), (.iload_n 1, 1, (0, 0), .null)] (G := True) (c' := (36, [some (.ref 0), some (.int 1)], [.int 1, .ref 19, .ref 7], M)) (by decide +kernel) rfl trivial ?_
        refine WP.blk [(.aaload, 1, (0, 0), .null)] (G := vp_in 1 2 ∧ True) (c' := (37, [some (.ref 0), some (.int 1)], [.ref 26, .ref 7], M)) (by decide +kernel) rfl ⟨vp_lit (by decide), trivial⟩ ?_
        refine WP.call (.invokevirtual 125, 3, (40, 2), .retAddr 1) (by decide +kernel) rfl (sp_Bike_takeFrom (d := d + 0) (by decide) h (fun M8 h => ?_))
        show WP (Ct (d + 1)) 120 Post (40, [some (.ref 0), some (.int 1)], [], M8)
        refine WP.blk [(.aload_n 0, 1, (0, 0), .null), (.getfield 40, 3, (6, 5), .null)] (G := True) (c' := (44, [some (.ref 0), some (.int 1)], [.ref 32], M8)) (by decide +kernel) rfl trivial ?_
        refine WP.call (.invokevirtual 128, 3, (41, 1), .retAddr 0) (by decide +kernel) rfl (sp_Acts_forget (d := d + 0) h (fun M9 h => ?_))
        show WP (Ct (d + 1)) 120 Post (47, [some (.ref 0), some (.int 1)], [], M9)
        refine WP.blk [(.iconst 1, 1, (0, 0), .int 1)] (G := True) (c' := (48, [some (.ref 0), some (.int 1)], [.int 1], M9)) (by decide +kernel) rfl trivial ?_
        exact WP.ret (.ireturn, 1, (0, 0), .null) (rk := 1) (by decide +kernel) (by decide +kernel) rfl trivial (hΦ _ _ h)
      · replace h := h.1 (Classical.not_not.mp c7)
        refine WP.blk [(.ldc 142, 2, (0, 0), .int (-1000002))] (G := True) (c' := (26, [some (.ref 0), some (.int 1)], [.int (-1000002)], M)) (by decide +kernel) rfl trivial ?_
        exact WP.ret (.ireturn, 1, (0, 0), .null) (rk := 1) (by decide +kernel) (by decide +kernel) rfl trivial (hΦ _ _ h)
  · replace h := h.1 (Classical.not_not.mp c2)
    refine WP.blk [(.ldc 73, 2, (0, 0), .int (-1000001))] (G := True) (c' := (11, [some (.ref 0), some (.int a1)], [.int (-1000001)], M)) (by decide +kernel) rfl trivial ?_
    exact WP.ret (.ireturn, 1, (0, 0), .null) (rk := 1) (by decide +kernel) (by decide +kernel) rfl trivial (hΦ _ _ h)
/-- GearRoad.kind(I)I -/
def S_kind (M : Mm) (a1 : Int32) (Φ : Int32 → Prop) : Prop := S_Bike_hasCog 7 M a1 (fun r1 => ((r1 = 0 → Φ (-1000001)) ∧ (¬ (r1 = 0) → vp_in a1 6 ∧ Φ (M 9 (Int32.toNatClampNeg a1)))))
set_option maxRecDepth 100000 in
set_option maxHeartbeats 4000000 in
theorem sp_kind {d : Nat} {Post : Option Value → Mm → Prop} {M : Mm} {a1 : Int32} {Φ : Int32 → Prop} (h : S_kind M a1 Φ) (hΦ : ∀ r, Φ r → Post (some (.int r)) M) : Ct (d + 3) 121 [.ref 0, .int a1] M Post := by
  refine Ct.go (n := 2) (E := [some (.ref 0), some (.int a1)]) (by decide +kernel) (by simp [Value.category]) rfl ?_
  refine WP.blk [(.aload_n 0, 1, (0, 0), .null), (.getfield 26, 3, (6, 2), .null), (.iload_n 1, 1, (0, 0), .null)] (G := True) (c' := (5, [some (.ref 0), some (.int a1)], [.int a1, .ref 7], M)) (by decide +kernel) rfl trivial ?_
  refine WP.call (.invokevirtual 187, 3, (50, 2), .retAddr 1) (by decide +kernel) rfl (sp_Bike_hasCog (d := d + 0) (by decide) h (fun r1 h => ?_))
  show WP (Ct (d + 2)) 121 Post (8, [some (.ref 0), some (.int a1)], [.int r1], M)
  refine WP.br (.ifCond .eq 15, 3, (23, 0), .null) (by decide +kernel) rfl (fun c2 => ?_) (fun c2 => ?_)
  · replace h := h.1 c2
    refine WP.blk [(.ldc 73, 2, (0, 0), .int (-1000001))] (G := True) (c' := (25, [some (.ref 0), some (.int a1)], [.int (-1000001)], M)) (by decide +kernel) rfl trivial ?_
    exact WP.ret (.ireturn, 1, (0, 0), .null) (rk := 1) (by decide +kernel) (by decide +kernel) rfl trivial (hΦ _ h)
  · replace h := h.2 c2
    refine WP.blk [(.aload_n 0, 1, (0, 0), .null), (.getfield 26, 3, (6, 2), .null), (.getfield 286, 3, (1, 10), .null), (.iload_n 1, 1, (0, 0), .null), (.iaload, 1, (0, 0), .null), (.goto 5, 3, (25, 0), .null)] (G := vp_in a1 6 ∧ True) (c' := (25, [some (.ref 0), some (.int a1)], [.int (M 9 (Int32.toNatClampNeg a1))], M)) (by decide +kernel) rfl ⟨h.1, trivial⟩ ?_
    replace h := h.2
    exact WP.ret (.ireturn, 1, (0, 0), .null) (rk := 1) (by decide +kernel) (by decide +kernel) rfl trivial (hΦ _ h)
/-- GearRoad.isOfKind(II)Z -/
def D_isOfKind_4 (M : Mm) (Φ : Int32 → Prop) (rec_4 : Int32 × Int32 × Int32 → Prop) : Int32 × Int32 × Int32 → Prop
  | (x1, x2, x3) => ((6 ≤ x3 → Φ 0) ∧ (¬ (6 ≤ x3) → S_within M x2 0 5 (fun r5 => ((r5 = 0 → Φ 0) ∧ (¬ (r5 = 0) → ((x2 = x1 → Φ 1) ∧ (¬ (x2 = x1) → vp_in x2 6 ∧ rec_4 (x1, (M 60 (Int32.toNatClampNeg x2)), (x3 + 1)))))))))
def S_isOfKind (M : Mm) (a1 : Int32) (a2 : Int32) (Φ : Int32 → Prop) : Prop := ∃ n, lp (D_isOfKind_4 M Φ) n (a2, a1, 0)
set_option maxRecDepth 100000 in
set_option maxHeartbeats 4000000 in
theorem L_isOfKind_4 {d : Nat} {Post : Option Value → Mm → Prop} {M : Mm} {rec_4 : Int32 × Int32 × Int32 → Prop} {Φ : Int32 → Prop} (hΦ : ∀ r, Φ r → Post (some (.int r)) M) (hrec_4 : ∀ (x1 : Int32) (x2 : Int32) (x3 : Int32), rec_4 (x1, x2, x3) → WP (Ct (d + 1)) 123 Post (4, [none, some (.int x1), some (.int x2), some (.int x3)], [], M)) : ∀ (x1 : Int32) (x2 : Int32) (x3 : Int32), D_isOfKind_4 M Φ rec_4 (x1, x2, x3) → WP (Ct (d + 1)) 123 Post (4, [none, some (.int x1), some (.int x2), some (.int x3)], [], M) := by
  intro x1 x2 x3 h
  replace h : ((6 ≤ x3 → Φ 0) ∧ (¬ (6 ≤ x3) → S_within M x2 0 5 (fun r5 => ((r5 = 0 → Φ 0) ∧ (¬ (r5 = 0) → ((x2 = x1 → Φ 1) ∧ (¬ (x2 = x1) → vp_in x2 6 ∧ rec_4 (x1, (M 60 (Int32.toNatClampNeg x2)), (x3 + 1))))))))) := h
  refine WP.blk [(.iload_n 3, 1, (0, 0), .null), (.bipush 6, 2, (0, 0), .int 6)] (G := True) (c' := (7, [none, some (.int x1), some (.int x2), some (.int x3)], [.int 6, .int x3], M)) (by decide +kernel) rfl trivial ?_
  refine WP.br (.if_icmp .ge 31, 3, (38, 0), .null) (by decide +kernel) rfl (fun c4 => ?_) (fun c4 => ?_)
  · replace h := h.1 c4
    refine WP.blk [(.iconst 0, 1, (0, 0), .int 0)] (G := True) (c' := (39, [none, some (.int x1), some (.int x2), some (.int x3)], [.int 0], M)) (by decide +kernel) rfl trivial ?_
    exact WP.ret (.ireturn, 1, (0, 0), .null) (rk := 2) (by decide +kernel) (by decide +kernel) rfl (by decide) (hΦ _ h)
  · replace h := h.2 c4
    refine WP.blk [(.iload_n 2, 1, (0, 0), .null), (.iconst 0, 1, (0, 0), .int 0), (.iconst 5, 1, (0, 0), .int 5)] (G := True) (c' := (13, [none, some (.int x1), some (.int x2), some (.int x3)], [.int 5, .int 0, .int x2], M)) (by decide +kernel) rfl trivial ?_
    refine WP.call (.invokestatic 69, 3, (10, 3), .null) (by decide +kernel) rfl (sp_within (d := d + 0) h (fun r5 h => ?_))
    show WP (Ct (d + 1)) 123 Post (16, [none, some (.int x1), some (.int x2), some (.int x3)], [.int r5], M)
    refine WP.br (.ifCond .eq 22, 3, (38, 0), .null) (by decide +kernel) rfl (fun c6 => ?_) (fun c6 => ?_)
    · replace h := h.1 c6
      refine WP.blk [(.iconst 0, 1, (0, 0), .int 0)] (G := True) (c' := (39, [none, some (.int x1), some (.int x2), some (.int x3)], [.int 0], M)) (by decide +kernel) rfl trivial ?_
      exact WP.ret (.ireturn, 1, (0, 0), .null) (rk := 2) (by decide +kernel) (by decide +kernel) rfl (by decide) (hΦ _ h)
    · replace h := h.2 c6
      refine WP.blk [(.iload_n 2, 1, (0, 0), .null), (.iload_n 1, 1, (0, 0), .null)] (G := True) (c' := (21, [none, some (.int x1), some (.int x2), some (.int x3)], [.int x1, .int x2], M)) (by decide +kernel) rfl trivial ?_
      refine WP.br (.if_icmp .ne 5, 3, (26, 0), .null) (by decide +kernel) rfl (fun c7 => ?_) (fun c7 => ?_)
      · replace h := h.2 c7
        refine WP.blk [(.getstatic 330, 3, (60, 0), .null), (.iload_n 2, 1, (0, 0), .null), (.iaload, 1, (0, 0), .null), (.istore_n 2, 1, (0, 0), .null), (.iinc 3 1, 3, (0, 0), .int 1), (.goto (-31), 3, (4, 0), .null)] (G := vp_in x2 6 ∧ True) (c' := (4, [none, some (.int x1), some (.int (M 60 (Int32.toNatClampNeg x2))), some (.int (x3 + 1))], [], M)) (by decide +kernel) rfl ⟨h.1, trivial⟩ ?_
        replace h := h.2
        exact hrec_4 _ _ _ h
      · replace h := h.1 (Classical.not_not.mp c7)
        refine WP.blk [(.iconst 1, 1, (0, 0), .int 1)] (G := True) (c' := (25, [none, some (.int x1), some (.int x2), some (.int x3)], [.int 1], M)) (by decide +kernel) rfl trivial ?_
        exact WP.ret (.ireturn, 1, (0, 0), .null) (rk := 2) (by decide +kernel) (by decide +kernel) rfl (by decide) (hΦ _ h)
theorem P_isOfKind_4 {d : Nat} {Post : Option Value → Mm → Prop} {M : Mm} {Φ : Int32 → Prop} (hΦ : ∀ r, Φ r → Post (some (.int r)) M) : ∀ (n : Nat) (x1 : Int32) (x2 : Int32) (x3 : Int32), lp (D_isOfKind_4 M Φ) n (x1, x2, x3) → WP (Ct (d + 1)) 123 Post (4, [none, some (.int x1), some (.int x2), some (.int x3)], [], M)
  | 0, x1, x2, x3, h => absurd h (by simp [lp])
  | n + 1, x1, x2, x3, h => L_isOfKind_4 hΦ (P_isOfKind_4 hΦ n) x1 x2 x3 h
set_option maxRecDepth 100000 in
set_option maxHeartbeats 4000000 in
theorem sp_isOfKind {d : Nat} {Post : Option Value → Mm → Prop} {M : Mm} {a1 : Int32} {a2 : Int32} {Φ : Int32 → Prop} (h : S_isOfKind M a1 a2 Φ) (hΦ : ∀ r, Φ r → Post (some (.int r)) M) : Ct (d + 2) 123 [.int a1, .int a2] M Post := by
  refine Ct.go (n := 4) (E := [some (.int a1), some (.int a2), none, none]) (by decide +kernel) (by simp [Value.category]) rfl ?_
  refine WP.blk [(.iload_n 0, 1, (0, 0), .null), (.istore_n 2, 1, (0, 0), .null), (.iconst 0, 1, (0, 0), .int 0), (.istore_n 3, 1, (0, 0), .null)] (G := True) (c' := (4, [some (.int a1), some (.int a2), some (.int a1), some (.int 0)], [], M)) (by decide +kernel) rfl trivial ?_
  refine WP.fgt [none, some (.int a2), some (.int a1), some (.int 0)] (by simp [fgt]) ?_
  obtain ⟨n, h⟩ := h
  exact P_isOfKind_4 hΦ n _ _ _ h
/-- GearRoad.as(II)I -/
def S_as (M : Mm) (a1 : Int32) (a2 : Int32) (Φ : Int32 → Mm → Prop) : Prop := S_Bike_hasCog 7 M a1 (fun r1 => ((r1 = 0 → Φ (-1000001) M) ∧ (¬ (r1 = 0) → S_within M a2 0 5 (fun r3 => ((r3 = 0 → Φ (-1000001) M) ∧ (¬ (r3 = 0) → vp_in a1 6 ∧ S_isOfKind M (M 9 (Int32.toNatClampNeg a1)) a2 (fun r5 => ((r5 = 0 → S_found M 3 (fun r7 M7 => Φ r7 M7)) ∧ (¬ (r5 = 0) → S_unfound M a1 (fun r8 M8 => Φ r8 M8))))))))))
set_option maxRecDepth 100000 in
set_option maxHeartbeats 4000000 in
theorem sp_as {d : Nat} {Post : Option Value → Mm → Prop} {M : Mm} {a1 : Int32} {a2 : Int32} {Φ : Int32 → Mm → Prop} (h : S_as M a1 a2 Φ) (hΦ : ∀ r M1, Φ r M1 → Post (some (.int r)) M1) : Ct (d + 3) 122 [.ref 0, .int a1, .int a2] M Post := by
  refine Ct.go (n := 3) (E := [some (.ref 0), some (.int a1), some (.int a2)]) (by decide +kernel) (by simp [Value.category]) rfl ?_
  refine WP.blk [(.aload_n 0, 1, (0, 0), .null), (.getfield 26, 3, (6, 2), .null), (.iload_n 1, 1, (0, 0), .null)] (G := True) (c' := (5, [some (.ref 0), some (.int a1), some (.int a2)], [.int a1, .ref 7], M)) (by decide +kernel) rfl trivial ?_
  refine WP.call (.invokevirtual 187, 3, (50, 2), .retAddr 1) (by decide +kernel) rfl (sp_Bike_hasCog (d := d + 0) (by decide) h (fun r1 h => ?_))
  show WP (Ct (d + 2)) 122 Post (8, [some (.ref 0), some (.int a1), some (.int a2)], [.int r1], M)
  refine WP.br (.ifCond .eq 12, 3, (20, 0), .null) (by decide +kernel) rfl (fun c2 => ?_) (fun c2 => ?_)
  · replace h := h.1 c2
    refine WP.blk [(.ldc 73, 2, (0, 0), .int (-1000001))] (G := True) (c' := (22, [some (.ref 0), some (.int a1), some (.int a2)], [.int (-1000001)], M)) (by decide +kernel) rfl trivial ?_
    exact WP.ret (.ireturn, 1, (0, 0), .null) (rk := 1) (by decide +kernel) (by decide +kernel) rfl trivial (hΦ _ _ h)
  · replace h := h.2 c2
    refine WP.blk [(.iload_n 2, 1, (0, 0), .null), (.iconst 0, 1, (0, 0), .int 0), (.iconst 5, 1, (0, 0), .int 5)] (G := True) (c' := (14, [some (.ref 0), some (.int a1), some (.int a2)], [.int 5, .int 0, .int a2], M)) (by decide +kernel) rfl trivial ?_
    refine WP.call (.invokestatic 69, 3, (10, 3), .null) (by decide +kernel) rfl (sp_within (d := d + 1) h (fun r3 h => ?_))
    show WP (Ct (d + 2)) 122 Post (17, [some (.ref 0), some (.int a1), some (.int a2)], [.int r3], M)
    refine WP.br (.ifCond .ne 6, 3, (23, 0), .null) (by decide +kernel) rfl (fun c4 => ?_) (fun c4 => ?_)
    · replace h := h.2 c4
      refine WP.blk [(.aload_n 0, 1, (0, 0), .null), (.getfield 26, 3, (6, 2), .null), (.getfield 286, 3, (1, 10), .null), (.iload_n 1, 1, (0, 0), .null), (.iaload, 1, (0, 0), .null), (.iload_n 2, 1, (0, 0), .null)] (G := vp_in a1 6 ∧ True) (c' := (33, [some (.ref 0), some (.int a1), some (.int a2)], [.int a2, .int (M 9 (Int32.toNatClampNeg a1))], M)) (by decide +kernel) rfl ⟨h.1, trivial⟩ ?_
      replace h := h.2
      refine WP.call (.invokestatic 289, 3, (123, 2), .null) (by decide +kernel) rfl (sp_isOfKind (d := d + 0) h (fun r5 h => ?_))
      show WP (Ct (d + 2)) 122 Post (36, [some (.ref 0), some (.int a1), some (.int a2)], [.int r5], M)
      refine WP.br (.ifCond .eq 11, 3, (47, 0), .null) (by decide +kernel) rfl (fun c6 => ?_) (fun c6 => ?_)
      · replace h := h.1 c6
        refine WP.blk [(.aload_n 0, 1, (0, 0), .null), (.iconst 3, 1, (0, 0), .int 3)] (G := True) (c' := (49, [some (.ref 0), some (.int a1), some (.int a2)], [.int 3, .ref 0], M)) (by decide +kernel) rfl trivial ?_
        refine WP.call (.invokevirtual 74, 3, (11, 2), .retAddr 6) (by decide +kernel) rfl (sp_found (d := d + 1) h (fun r7 M7 h => ?_))
        show WP (Ct (d + 2)) 122 Post (52, [some (.ref 0), some (.int a1), some (.int a2)], [.int r7], M7)
        exact WP.ret (.ireturn, 1, (0, 0), .null) (rk := 1) (by decide +kernel) (by decide +kernel) rfl trivial (hΦ _ _ h)
      · replace h := h.2 c6
        refine WP.blk [(.aload_n 0, 1, (0, 0), .null), (.iload_n 1, 1, (0, 0), .null)] (G := True) (c' := (41, [some (.ref 0), some (.int a1), some (.int a2)], [.int a1, .ref 0], M)) (by decide +kernel) rfl trivial ?_
        refine WP.call (.invokevirtual 82, 3, (14, 2), .retAddr 6) (by decide +kernel) rfl (sp_unfound (d := d + 1) h (fun r8 M8 h => ?_))
        show WP (Ct (d + 2)) 122 Post (44, [some (.ref 0), some (.int a1), some (.int a2)], [.int r8], M8)
        refine WP.blk [(.goto 8, 3, (52, 0), .null)] (G := True) (c' := (52, [some (.ref 0), some (.int a1), some (.int a2)], [.int r8], M8)) (by decide +kernel) rfl trivial ?_
        exact WP.ret (.ireturn, 1, (0, 0), .null) (rk := 1) (by decide +kernel) (by decide +kernel) rfl trivial (hΦ _ _ h)
    · replace h := h.1 (Classical.not_not.mp c4)
      refine WP.blk [(.ldc 73, 2, (0, 0), .int (-1000001))] (G := True) (c' := (22, [some (.ref 0), some (.int a1), some (.int a2)], [.int (-1000001)], M)) (by decide +kernel) rfl trivial ?_
      exact WP.ret (.ireturn, 1, (0, 0), .null) (rk := 1) (by decide +kernel) (by decide +kernel) rfl trivial (hΦ _ _ h)
/-- GearRoad.trace(I)I -/
def S_trace (M : Mm) (a1 : Int32) (Φ : Int32 → Prop) : Prop := S_within M a1 0 ((M 37 1) - 1) (fun r1 => ((r1 = 0 → Φ (-1000000)) ∧ (¬ (r1 = 0) → vp_in a1 16 ∧ Φ (M 38 (Int32.toNatClampNeg a1)))))
set_option maxRecDepth 100000 in
set_option maxHeartbeats 4000000 in
theorem sp_trace {d : Nat} {Post : Option Value → Mm → Prop} {M : Mm} {a1 : Int32} {Φ : Int32 → Prop} (h : S_trace M a1 Φ) (hΦ : ∀ r, Φ r → Post (some (.int r)) M) : Ct (d + 2) 128 [.ref 0, .int a1] M Post := by
  refine Ct.go (n := 2) (E := [some (.ref 0), some (.int a1)]) (by decide +kernel) (by simp [Value.category]) rfl ?_
  refine WP.blk [(.iload_n 1, 1, (0, 0), .null), (.iconst 0, 1, (0, 0), .int 0), (.aload_n 0, 1, (0, 0), .null), (.getfield 54, 3, (6, 7), .null), (.getfield 292, 3, (5, 1), .null), (.iconst 1, 1, (0, 0), .int 1), (.isub, 1, (0, 0), .null)] (G := True) (c' := (11, [some (.ref 0), some (.int a1)], [.int ((M 37 1) - 1), .int 0, .int a1], M)) (by decide +kernel) rfl trivial ?_
  refine WP.call (.invokestatic 69, 3, (10, 3), .null) (by decide +kernel) rfl (sp_within (d := d + 0) h (fun r1 h => ?_))
  show WP (Ct (d + 1)) 128 Post (14, [some (.ref 0), some (.int a1)], [.int r1], M)
  refine WP.br (.ifCond .eq 15, 3, (29, 0), .null) (by decide +kernel) rfl (fun c2 => ?_) (fun c2 => ?_)
  · replace h := h.1 c2
    refine WP.blk [(.ldc 239, 2, (0, 0), .int (-1000000))] (G := True) (c' := (31, [some (.ref 0), some (.int a1)], [.int (-1000000)], M)) (by decide +kernel) rfl trivial ?_
    exact WP.ret (.ireturn, 1, (0, 0), .null) (rk := 1) (by decide +kernel) (by decide +kernel) rfl trivial (hΦ _ h)
  · replace h := h.2 c2
    refine WP.blk [(.aload_n 0, 1, (0, 0), .null), (.getfield 54, 3, (6, 7), .null), (.getfield 296, 3, (5, 0), .null), (.iload_n 1, 1, (0, 0), .null), (.iaload, 1, (0, 0), .null), (.goto 5, 3, (31, 0), .null)] (G := vp_in a1 16 ∧ True) (c' := (31, [some (.ref 0), some (.int a1)], [.int (M 38 (Int32.toNatClampNeg a1))], M)) (by decide +kernel) rfl ⟨h.1, trivial⟩ ?_
    replace h := h.2
    exact WP.ret (.ireturn, 1, (0, 0), .null) (rk := 1) (by decide +kernel) (by decide +kernel) rfl trivial (hΦ _ h)
/-- GearRoad.count(I)I -/
def S_count (M : Mm) (a1 : Int32) (Φ : Int32 → Prop) : Prop := ((a1 = 0 → S_Rows_howMany M (fun r2 => Φ r2)) ∧ (¬ (a1 = 0) → ((a1 = 1 → Φ (M 7 2)) ∧ (¬ (a1 = 1) → ((a1 = 2 → Φ (M 7 1)) ∧ (¬ (a1 = 2) → ((a1 = 3 → Φ (M 7 3)) ∧ (¬ (a1 = 3) → ((a1 = 4 → Φ (M 7 4)) ∧ (¬ (a1 = 4) → ((a1 = 5 → S_Bike_gear 7 M (fun r8 => Φ r8)) ∧ (¬ (a1 = 5) → ((a1 = 6 → Φ (M 7 7)) ∧ (¬ (a1 = 6) → ((a1 = 7 → Φ (M 7 8)) ∧ (¬ (a1 = 7) → ((a1 = 8 → Φ (M 32 1)) ∧ (¬ (a1 = 8) → ((a1 = 9 → Φ (M 5 1)) ∧ (¬ (a1 = 9) → Φ (-1000001)))))))))))))))))))))
set_option maxRecDepth 100000 in
set_option maxHeartbeats 4000000 in
theorem sp_count {d : Nat} {Post : Option Value → Mm → Prop} {M : Mm} {a1 : Int32} {Φ : Int32 → Prop} (h : S_count M a1 Φ) (hΦ : ∀ r, Φ r → Post (some (.int r)) M) : Ct (d + 3) 129 [.ref 0, .int a1] M Post := by
  refine Ct.go (n := 2) (E := [some (.ref 0), some (.int a1)]) (by decide +kernel) (by simp [Value.category]) rfl ?_
  refine WP.blk [(.iload_n 1, 1, (0, 0), .null)] (G := True) (c' := (1, [some (.ref 0), some (.int a1)], [.int a1], M)) (by decide +kernel) rfl trivial ?_
  by_cases e1 : a1 = 0
  · refine WP.sw (.tableswitch 135 0 9 #[55, 63, 71, 79, 87, 95, 103, 111, 119, 127], 55, (0, 0), .null) 56 (by decide +kernel) (Or.inl ⟨_, _, _, _, rfl⟩) (by rw [e1]; decide) ?_
    replace h := h.1 e1
    refine WP.blk [(.aload_n 0, 1, (0, 0), .null), (.getfield 12, 3, (6, 0), .null)] (G := True) (c' := (60, [some (.ref 0), some (.int a1)], [.ref 1], M)) (by decide +kernel) rfl trivial ?_
    refine WP.call (.invokevirtual 299, 3, (130, 1), .retAddr 3) (by decide +kernel) rfl (sp_Rows_howMany (d := d + 0) h (fun r2 h => ?_))
    show WP (Ct (d + 2)) 129 Post (63, [some (.ref 0), some (.int a1)], [.int r2], M)
    exact WP.ret (.ireturn, 1, (0, 0), .null) (rk := 1) (by decide +kernel) (by decide +kernel) rfl trivial (hΦ _ h)
  replace h := h.2 e1
  by_cases e3 : a1 = 1
  · refine WP.sw (.tableswitch 135 0 9 #[55, 63, 71, 79, 87, 95, 103, 111, 119, 127], 55, (0, 0), .null) 64 (by decide +kernel) (Or.inl ⟨_, _, _, _, rfl⟩) (by rw [e3]; decide) ?_
    replace h := h.1 e3
    refine WP.blk [(.aload_n 0, 1, (0, 0), .null), (.getfield 26, 3, (6, 2), .null), (.getfield 131, 3, (1, 2), .null)] (G := True) (c' := (71, [some (.ref 0), some (.int a1)], [.int (M 7 2)], M)) (by decide +kernel) rfl trivial ?_
    exact WP.ret (.ireturn, 1, (0, 0), .null) (rk := 1) (by decide +kernel) (by decide +kernel) rfl trivial (hΦ _ h)
  replace h := h.2 e3
  by_cases e4 : a1 = 2
  · refine WP.sw (.tableswitch 135 0 9 #[55, 63, 71, 79, 87, 95, 103, 111, 119, 127], 55, (0, 0), .null) 72 (by decide +kernel) (Or.inl ⟨_, _, _, _, rfl⟩) (by rw [e4]; decide) ?_
    replace h := h.1 e4
    refine WP.blk [(.aload_n 0, 1, (0, 0), .null), (.getfield 26, 3, (6, 2), .null), (.getfield 302, 3, (1, 1), .null)] (G := True) (c' := (79, [some (.ref 0), some (.int a1)], [.int (M 7 1)], M)) (by decide +kernel) rfl trivial ?_
    exact WP.ret (.ireturn, 1, (0, 0), .null) (rk := 1) (by decide +kernel) (by decide +kernel) rfl trivial (hΦ _ h)
  replace h := h.2 e4
  by_cases e5 : a1 = 3
  · refine WP.sw (.tableswitch 135 0 9 #[55, 63, 71, 79, 87, 95, 103, 111, 119, 127], 55, (0, 0), .null) 80 (by decide +kernel) (Or.inl ⟨_, _, _, _, rfl⟩) (by rw [e5]; decide) ?_
    replace h := h.1 e5
    refine WP.blk [(.aload_n 0, 1, (0, 0), .null), (.getfield 26, 3, (6, 2), .null), (.getfield 262, 3, (1, 3), .null)] (G := True) (c' := (87, [some (.ref 0), some (.int a1)], [.int (M 7 3)], M)) (by decide +kernel) rfl trivial ?_
    exact WP.ret (.ireturn, 1, (0, 0), .null) (rk := 1) (by decide +kernel) (by decide +kernel) rfl trivial (hΦ _ h)
  replace h := h.2 e5
  by_cases e6 : a1 = 4
  · refine WP.sw (.tableswitch 135 0 9 #[55, 63, 71, 79, 87, 95, 103, 111, 119, 127], 55, (0, 0), .null) 88 (by decide +kernel) (Or.inl ⟨_, _, _, _, rfl⟩) (by rw [e6]; decide) ?_
    replace h := h.1 e6
    refine WP.blk [(.aload_n 0, 1, (0, 0), .null), (.getfield 26, 3, (6, 2), .null), (.getfield 174, 3, (1, 4), .null)] (G := True) (c' := (95, [some (.ref 0), some (.int a1)], [.int (M 7 4)], M)) (by decide +kernel) rfl trivial ?_
    exact WP.ret (.ireturn, 1, (0, 0), .null) (rk := 1) (by decide +kernel) (by decide +kernel) rfl trivial (hΦ _ h)
  replace h := h.2 e6
  by_cases e7 : a1 = 5
  · refine WP.sw (.tableswitch 135 0 9 #[55, 63, 71, 79, 87, 95, 103, 111, 119, 127], 55, (0, 0), .null) 96 (by decide +kernel) (Or.inl ⟨_, _, _, _, rfl⟩) (by rw [e7]; decide) ?_
    replace h := h.1 e7
    refine WP.blk [(.aload_n 0, 1, (0, 0), .null), (.getfield 26, 3, (6, 2), .null)] (G := True) (c' := (100, [some (.ref 0), some (.int a1)], [.ref 7], M)) (by decide +kernel) rfl trivial ?_
    refine WP.call (.invokevirtual 209, 3, (46, 1), .retAddr 1) (by decide +kernel) rfl (sp_Bike_gear (d := d + 1) (by decide) h (fun r8 h => ?_))
    show WP (Ct (d + 2)) 129 Post (103, [some (.ref 0), some (.int a1)], [.int r8], M)
    exact WP.ret (.ireturn, 1, (0, 0), .null) (rk := 1) (by decide +kernel) (by decide +kernel) rfl trivial (hΦ _ h)
  replace h := h.2 e7
  by_cases e9 : a1 = 6
  · refine WP.sw (.tableswitch 135 0 9 #[55, 63, 71, 79, 87, 95, 103, 111, 119, 127], 55, (0, 0), .null) 104 (by decide +kernel) (Or.inl ⟨_, _, _, _, rfl⟩) (by rw [e9]; decide) ?_
    replace h := h.1 e9
    refine WP.blk [(.aload_n 0, 1, (0, 0), .null), (.getfield 26, 3, (6, 2), .null), (.getfield 171, 3, (1, 7), .null)] (G := True) (c' := (111, [some (.ref 0), some (.int a1)], [.int (M 7 7)], M)) (by decide +kernel) rfl trivial ?_
    exact WP.ret (.ireturn, 1, (0, 0), .null) (rk := 1) (by decide +kernel) (by decide +kernel) rfl trivial (hΦ _ h)
  replace h := h.2 e9
  by_cases e10 : a1 = 7
  · refine WP.sw (.tableswitch 135 0 9 #[55, 63, 71, 79, 87, 95, 103, 111, 119, 127], 55, (0, 0), .null) 112 (by decide +kernel) (Or.inl ⟨_, _, _, _, rfl⟩) (by rw [e10]; decide) ?_
    replace h := h.1 e10
    refine WP.blk [(.aload_n 0, 1, (0, 0), .null), (.getfield 26, 3, (6, 2), .null), (.getfield 272, 3, (1, 8), .null)] (G := True) (c' := (119, [some (.ref 0), some (.int a1)], [.int (M 7 8)], M)) (by decide +kernel) rfl trivial ?_
    exact WP.ret (.ireturn, 1, (0, 0), .null) (rk := 1) (by decide +kernel) (by decide +kernel) rfl trivial (hΦ _ h)
  replace h := h.2 e10
  by_cases e11 : a1 = 8
  · refine WP.sw (.tableswitch 135 0 9 #[55, 63, 71, 79, 87, 95, 103, 111, 119, 127], 55, (0, 0), .null) 120 (by decide +kernel) (Or.inl ⟨_, _, _, _, rfl⟩) (by rw [e11]; decide) ?_
    replace h := h.1 e11
    refine WP.blk [(.aload_n 0, 1, (0, 0), .null), (.getfield 40, 3, (6, 5), .null), (.getfield 183, 3, (0, 1), .null)] (G := True) (c' := (127, [some (.ref 0), some (.int a1)], [.int (M 32 1)], M)) (by decide +kernel) rfl trivial ?_
    exact WP.ret (.ireturn, 1, (0, 0), .null) (rk := 1) (by decide +kernel) (by decide +kernel) rfl trivial (hΦ _ h)
  replace h := h.2 e11
  by_cases e12 : a1 = 9
  · refine WP.sw (.tableswitch 135 0 9 #[55, 63, 71, 79, 87, 95, 103, 111, 119, 127], 55, (0, 0), .null) 128 (by decide +kernel) (Or.inl ⟨_, _, _, _, rfl⟩) (by rw [e12]; decide) ?_
    replace h := h.1 e12
    refine WP.blk [(.aload_n 0, 1, (0, 0), .null), (.getfield 19, 3, (6, 1), .null), (.getfield 106, 3, (4, 1), .null)] (G := True) (c' := (135, [some (.ref 0), some (.int a1)], [.int (M 5 1)], M)) (by decide +kernel) rfl trivial ?_
    exact WP.ret (.ireturn, 1, (0, 0), .null) (rk := 1) (by decide +kernel) (by decide +kernel) rfl trivial (hΦ _ h)
  replace h := h.2 e12
  refine WP.sw (.tableswitch 135 0 9 #[55, 63, 71, 79, 87, 95, 103, 111, 119, 127], 55, (0, 0), .null) 136 (by decide +kernel) (Or.inl ⟨_, _, _, _, rfl⟩) (by rw [sw_out (by have := ne_toInt e1; rw [show (0 : Int32).toInt = 0 from by decide] at this; have := ne_toInt e3; rw [show (1 : Int32).toInt = 1 from by decide] at this; have := ne_toInt e4; rw [show (2 : Int32).toInt = 2 from by decide] at this; have := ne_toInt e5; rw [show (3 : Int32).toInt = 3 from by decide] at this; have := ne_toInt e6; rw [show (4 : Int32).toInt = 4 from by decide] at this; have := ne_toInt e7; rw [show (5 : Int32).toInt = 5 from by decide] at this; have := ne_toInt e9; rw [show (6 : Int32).toInt = 6 from by decide] at this; have := ne_toInt e10; rw [show (7 : Int32).toInt = 7 from by decide] at this; have := ne_toInt e11; rw [show (8 : Int32).toInt = 8 from by decide] at this; have := ne_toInt e12; rw [show (9 : Int32).toInt = 9 from by decide] at this; omega)]; rfl) ?_
  refine WP.blk [(.ldc 73, 2, (0, 0), .int (-1000001))] (G := True) (c' := (138, [some (.ref 0), some (.int a1)], [.int (-1000001)], M)) (by decide +kernel) rfl trivial ?_
  exact WP.ret (.ireturn, 1, (0, 0), .null) (rk := 1) (by decide +kernel) (by decide +kernel) rfl trivial (hΦ _ h)
/-- GearRoad.status()I -/
def S_status (M : Mm) (Φ : Int32 → Prop) : Prop := Φ (M 0 8)
set_option maxRecDepth 100000 in
set_option maxHeartbeats 4000000 in
theorem sp_status {d : Nat} {Post : Option Value → Mm → Prop} {M : Mm} {Φ : Int32 → Prop} (h : S_status M Φ) (hΦ : ∀ r, Φ r → Post (some (.int r)) M) : Ct (d + 1) 131 [.ref 0] M Post := by
  refine Ct.go (n := 1) (E := [some (.ref 0)]) (by decide +kernel) (by simp [Value.category]) rfl ?_
  refine WP.blk [(.aload_n 0, 1, (0, 0), .null), (.getfield 58, 3, (6, 8), .null)] (G := True) (c' := (4, [some (.ref 0)], [.int (M 0 8)], M)) (by decide +kernel) rfl trivial ?_
  exact WP.ret (.ireturn, 1, (0, 0), .null) (rk := 1) (by decide +kernel) (by decide +kernel) rfl trivial (hΦ _ h)
