/-- GearRoad.asked(III)I -/
def D_asked_43 (B : Mm → Int32 → Int32 → Int32 → (Int32 → Mm → Prop) → Prop) (Φ : Int32 → Mm → Prop) : Int32 × Int32 × Int32 × Mm → Prop
  | (x1, x2, x3, M) => B M x3 x1 x2 (fun r4 M4 => Φ r4 M4)
def S_asked_F (B : Mm → Int32 → Int32 → Int32 → (Int32 → Mm → Prop) → Prop) (M : Mm) (a1 : Int32) (a2 : Int32) (a3 : Int32) (Φ : Int32 → Mm → Prop) : Prop := vp_in a2 6 ∧ S_within M (M 9 (Int32.toNatClampNeg a2)) 0 5 (fun r1 => ((r1 = 0 → Φ 0 M) ∧ (¬ (r1 = 0) → ((a1 = 0 → vp_in (M 9 (Int32.toNatClampNeg a2)) 6 ∧ D_asked_43 B Φ (a2, a3, (M 61 (Int32.toNatClampNeg (M 9 (Int32.toNatClampNeg a2)))), M)) ∧ (¬ (a1 = 0) → vp_in (M 9 (Int32.toNatClampNeg a2)) 6 ∧ D_asked_43 B Φ (a2, a3, (M 62 (Int32.toNatClampNeg (M 9 (Int32.toNatClampNeg a2)))), M))))))
set_option maxRecDepth 100000 in
set_option maxHeartbeats 4000000 in
theorem L_asked_43 {d : Nat} {B : Mm → Int32 → Int32 → Int32 → (Int32 → Mm → Prop) → Prop} (hB : ∀ {Post : Option Value → Mm → Prop} {M : Mm} {b1 b2 b3 : Int32} {Ψ : Int32 → Mm → Prop}, B M b1 b2 b3 Ψ → (∀ r M1, Ψ r M1 → Post (some (.int r)) M1) → Ct (d + 1) 126 [.ref 0, .int b1, .int b2, .int b3] M Post) {Post : Option Value → Mm → Prop} {Φ : Int32 → Mm → Prop} (hΦ : ∀ r M1, Φ r M1 → Post (some (.int r)) M1) : ∀ (x1 : Int32) (x2 : Int32) (x3 : Int32) (M : Mm), D_asked_43 B Φ (x1, x2, x3, M) → WP (Ct (d + 1)) 125 Post (43, [none, none, some (.int x1), some (.int x2), none], [.int x3, .ref 0], M) := by
  intro x1 x2 x3 M h
  replace h : B M x3 x1 x2 (fun r4 M4 => Φ r4 M4) := h
  refine WP.blk [(.iload_n 2, 1, (0, 0), .null), (.iload_n 3, 1, (0, 0), .null)] (G := True) (c' := (45, [none, none, some (.int x1), some (.int x2), none], [.int x2, .int x1, .int x3, .ref 0], M)) (by decide +kernel) rfl trivial ?_
  refine WP.call (.invokevirtual 339, 3, (126, 4), .retAddr 6) (by decide +kernel) rfl (hB h (fun r4 M4 h => ?_))
  show WP (Ct (d + 1)) 125 Post (48, [none, none, some (.int x1), some (.int x2), none], [.int r4], M4)
  exact WP.ret (.ireturn, 1, (0, 0), .null) (rk := 1) (by decide +kernel) (by decide +kernel) rfl trivial (hΦ _ _ h)
set_option maxRecDepth 100000 in
set_option maxHeartbeats 4000000 in
theorem sp_asked_F {d : Nat} {B : Mm → Int32 → Int32 → Int32 → (Int32 → Mm → Prop) → Prop} (hB : ∀ {Post : Option Value → Mm → Prop} {M : Mm} {b1 b2 b3 : Int32} {Ψ : Int32 → Mm → Prop}, B M b1 b2 b3 Ψ → (∀ r M1, Ψ r M1 → Post (some (.int r)) M1) → Ct (d + 1) 126 [.ref 0, .int b1, .int b2, .int b3] M Post) {Post : Option Value → Mm → Prop} {M : Mm} {a1 : Int32} {a2 : Int32} {a3 : Int32} {Φ : Int32 → Mm → Prop} (h : S_asked_F B M a1 a2 a3 Φ) (hΦ : ∀ r M1, Φ r M1 → Post (some (.int r)) M1) : Ct (d + 2) 125 [.ref 0, .int a1, .int a2, .int a3] M Post := by
  refine Ct.go (n := 5) (E := [some (.ref 0), some (.int a1), some (.int a2), some (.int a3), none]) (by decide +kernel) (by simp [Value.category]) rfl ?_
  refine WP.blk [(.aload_n 0, 1, (0, 0), .null), (.getfield 26, 3, (6, 2), .null), (.getfield 286, 3, (1, 10), .null), (.iload_n 2, 1, (0, 0), .null), (.iaload, 1, (0, 0), .null), (.istore 4, 2, (0, 0), .null), (.iload 4, 2, (0, 0), .null), (.iconst 0, 1, (0, 0), .int 0), (.iconst 5, 1, (0, 0), .int 5)] (G := vp_in a2 6 ∧ True) (c' := (15, [some (.ref 0), some (.int a1), some (.int a2), some (.int a3), some (.int (M 9 (Int32.toNatClampNeg a2)))], [.int 5, .int 0, .int (M 9 (Int32.toNatClampNeg a2))], M)) (by decide +kernel) rfl ⟨h.1, trivial⟩ ?_
  replace h := h.2
  refine WP.call (.invokestatic 69, 3, (10, 3), .null) (by decide +kernel) rfl (sp_within (d := d + 0) h (fun r1 h => ?_))
  show WP (Ct (d + 1)) 125 Post (18, [some (.ref 0), some (.int a1), some (.int a2), some (.int a3), some (.int (M 9 (Int32.toNatClampNeg a2)))], [.int r1], M)
  refine WP.br (.ifCond .ne 5, 3, (23, 0), .null) (by decide +kernel) rfl (fun c2 => ?_) (fun c2 => ?_)
  · replace h := h.2 c2
    refine WP.blk [(.aload_n 0, 1, (0, 0), .null), (.iload_n 1, 1, (0, 0), .null)] (G := True) (c' := (25, [some (.ref 0), some (.int a1), some (.int a2), some (.int a3), some (.int (M 9 (Int32.toNatClampNeg a2)))], [.int a1, .ref 0], M)) (by decide +kernel) rfl trivial ?_
    refine WP.br (.ifCond .ne 12, 3, (37, 0), .null) (by decide +kernel) rfl (fun c3 => ?_) (fun c3 => ?_)
    · replace h := h.2 c3
      refine WP.blk [(.getstatic 336, 3, (62, 0), .null), (.iload 4, 2, (0, 0), .null), (.iaload, 1, (0, 0), .null)] (G := vp_in (M 9 (Int32.toNatClampNeg a2)) 6 ∧ True) (c' := (43, [some (.ref 0), some (.int a1), some (.int a2), some (.int a3), some (.int (M 9 (Int32.toNatClampNeg a2)))], [.int (M 62 (Int32.toNatClampNeg (M 9 (Int32.toNatClampNeg a2)))), .ref 0], M)) (by decide +kernel) rfl ⟨h.1, trivial⟩ ?_
      replace h := h.2
      refine WP.fgt [none, none, some (.int a2), some (.int a3), none] (by simp [fgt]) ?_
      exact L_asked_43 hB hΦ _ _ _ _ h
    · replace h := h.1 (Classical.not_not.mp c3)
      refine WP.blk [(.getstatic 333, 3, (61, 0), .null), (.iload 4, 2, (0, 0), .null), (.iaload, 1, (0, 0), .null), (.goto 9, 3, (43, 0), .null)] (G := vp_in (M 9 (Int32.toNatClampNeg a2)) 6 ∧ True) (c' := (43, [some (.ref 0), some (.int a1), some (.int a2), some (.int a3), some (.int (M 9 (Int32.toNatClampNeg a2)))], [.int (M 61 (Int32.toNatClampNeg (M 9 (Int32.toNatClampNeg a2)))), .ref 0], M)) (by decide +kernel) rfl ⟨h.1, trivial⟩ ?_
      replace h := h.2
      refine WP.fgt [none, none, some (.int a2), some (.int a3), none] (by simp [fgt]) ?_
      exact L_asked_43 hB hΦ _ _ _ _ h
  · replace h := h.1 (Classical.not_not.mp c2)
    refine WP.blk [(.iconst 0, 1, (0, 0), .int 0)] (G := True) (c' := (22, [some (.ref 0), some (.int a1), some (.int a2), some (.int a3), some (.int (M 9 (Int32.toNatClampNeg a2)))], [.int 0], M)) (by decide +kernel) rfl trivial ?_
    exact WP.ret (.ireturn, 1, (0, 0), .null) (rk := 1) (by decide +kernel) (by decide +kernel) rfl trivial (hΦ _ _ h)
/-- GearRoad.body(III)I -/
def S_body_F (B A : Mm → Int32 → Int32 → Int32 → (Int32 → Mm → Prop) → Prop) (M : Mm) (a1 : Int32) (a2 : Int32) (a3 : Int32) (Φ : Int32 → Mm → Prop) : Prop := ((a3 ≤ 20 → S_Trace_leave M a1 (fun M2 => ((a1 = 10 → vp_in a2 6 ∧ Φ (M2 10 (Int32.toNatClampNeg a2)) M2) ∧ (¬ (a1 = 10) → ((a1 = 11 → B M2 10 a2 (a3 + 1) (fun r5 M5 => A M5 1 a2 (a3 + 1) (fun r6 M6 => Φ (r5 + r6) M6))) ∧ (¬ (a1 = 11) → ((a1 = 12 → B M2 11 a2 (a3 + 1) (fun r8 M8 => Φ (-r8) M8)) ∧ (¬ (a1 = 12) → ((a1 = 13 → B M2 10 a2 (a3 + 1) (fun r10 M10 => Φ (r10 - 100) M10)) ∧ (¬ (a1 = 13) → ((a1 = 14 → B M2 13 a2 (a3 + 1) (fun r12 M12 => Φ (2 * r12) M12)) ∧ (¬ (a1 = 14) → ((a1 = 15 → Φ 0 M2) ∧ (¬ (a1 = 15) → ((a1 = 16 → Φ 0 M2) ∧ (¬ (a1 = 16) → ((a1 = 17 → Φ 0 M2) ∧ (¬ (a1 = 17) → ((a1 = 18 → Φ 0 M2) ∧ (¬ (a1 = 18) → ((a1 = 19 → Φ 0 M2) ∧ (¬ (a1 = 19) → ((a1 = 20 → Φ a2 M2) ∧ (¬ (a1 = 20) → ((a1 = 21 → B M2 20 a2 (a3 + 1) (fun r20 M20 => vp_in a2 6 ∧ Φ (r20 + (M20 11 (Int32.toNatClampNeg a2))) M20)) ∧ (¬ (a1 = 21) → ((a1 = 22 → B M2 21 a2 (a3 + 1) (fun r22 M22 => Φ (r22 - 1000) M22)) ∧ (¬ (a1 = 22) → ((a1 = 23 → B M2 20 a2 (a3 + 1) (fun r24 M24 => A M24 0 a2 (a3 + 1) (fun r25 M25 => Φ (r24 - r25) M25))) ∧ (¬ (a1 = 23) → ((a1 = 24 → B M2 21 a2 (a3 + 1) (fun r27 M27 => Φ (2 * r27) M27)) ∧ (¬ (a1 = 24) → Φ 0 M2)))))))))))))))))))))))))))))))) ∧ (¬ (a3 ≤ 20) → Φ 0 M))
set_option maxRecDepth 100000 in
set_option maxHeartbeats 4000000 in
theorem sp_body_F {d : Nat} {B A : Mm → Int32 → Int32 → Int32 → (Int32 → Mm → Prop) → Prop} (hB : ∀ {Post : Option Value → Mm → Prop} {M : Mm} {b1 b2 b3 : Int32} {Ψ : Int32 → Mm → Prop}, B M b1 b2 b3 Ψ → (∀ r M1, Ψ r M1 → Post (some (.int r)) M1) → Ct (d + 1) 126 [.ref 0, .int b1, .int b2, .int b3] M Post) (hA : ∀ {Post : Option Value → Mm → Prop} {M : Mm} {b1 b2 b3 : Int32} {Ψ : Int32 → Mm → Prop}, A M b1 b2 b3 Ψ → (∀ r M1, Ψ r M1 → Post (some (.int r)) M1) → Ct (d + 1) 125 [.ref 0, .int b1, .int b2, .int b3] M Post) {Post : Option Value → Mm → Prop} {M : Mm} {a1 : Int32} {a2 : Int32} {a3 : Int32} {Φ : Int32 → Mm → Prop} (h : S_body_F B A M a1 a2 a3 Φ) (hΦ : ∀ r M1, Φ r M1 → Post (some (.int r)) M1) : Ct (d + 2) 126 [.ref 0, .int a1, .int a2, .int a3] M Post := by
  refine Ct.go (n := 5) (E := [some (.ref 0), some (.int a1), some (.int a2), some (.int a3), none]) (by decide +kernel) (by simp [Value.category]) rfl ?_
  refine WP.blk [(.iload_n 3, 1, (0, 0), .null), (.bipush 20, 2, (0, 0), .int 20)] (G := True) (c' := (3, [some (.ref 0), some (.int a1), some (.int a2), some (.int a3), none], [.int 20, .int a3], M)) (by decide +kernel) rfl trivial ?_
  refine WP.br (.if_icmp .le 5, 3, (8, 0), .null) (by decide +kernel) rfl (fun c1 => ?_) (fun c1 => ?_)
  · replace h := h.1 c1
    refine WP.blk [(.aload_n 0, 1, (0, 0), .null), (.getfield 54, 3, (6, 7), .null), (.iload_n 1, 1, (0, 0), .null)] (G := True) (c' := (13, [some (.ref 0), some (.int a1), some (.int a2), some (.int a3), none], [.int a1, .ref 37], M)) (by decide +kernel) rfl trivial ?_
    refine WP.call (.invokevirtual 342, 3, (127, 2), .retAddr 5) (by decide +kernel) rfl (sp_Trace_leave (d := d + 0) h (fun M2 h => ?_))
    show WP (Ct (d + 1)) 126 Post (16, [some (.ref 0), some (.int a1), some (.int a2), some (.int a3), none], [], M2)
    refine WP.blk [(.iload_n 3, 1, (0, 0), .null), (.iconst 1, 1, (0, 0), .int 1), (.iadd, 1, (0, 0), .null), (.istore 4, 2, (0, 0), .null), (.iload_n 1, 1, (0, 0), .null)] (G := True) (c' := (22, [some (.ref 0), some (.int a1), some (.int a2), some (.int a3), some (.int (a3 + 1))], [.int a1], M2)) (by decide +kernel) rfl trivial ?_
    by_cases e3 : a1 = 10
    · refine WP.sw (.tableswitch 206 10 24 #[74, 84, 103, 114, 127, 206, 206, 206, 206, 206, 139, 141, 161, 175, 194], 74, (0, 0), .null) 96 (by decide +kernel) (Or.inl ⟨_, _, _, _, rfl⟩) (by rw [e3]; decide) ?_
      replace h := h.1 e3
      refine WP.blk [(.aload_n 0, 1, (0, 0), .null), (.getfield 26, 3, (6, 2), .null), (.getfield 190, 3, (1, 11), .null), (.iload_n 2, 1, (0, 0), .null), (.iaload, 1, (0, 0), .null)] (G := vp_in a2 6 ∧ True) (c' := (105, [some (.ref 0), some (.int a1), some (.int a2), some (.int a3), some (.int (a3 + 1))], [.int (M2 10 (Int32.toNatClampNeg a2))], M2)) (by decide +kernel) rfl ⟨h.1, trivial⟩ ?_
      replace h := h.2
      exact WP.ret (.ireturn, 1, (0, 0), .null) (rk := 1) (by decide +kernel) (by decide +kernel) rfl trivial (hΦ _ _ h)
    replace h := h.2 e3
    by_cases e4 : a1 = 11
    · refine WP.sw (.tableswitch 206 10 24 #[74, 84, 103, 114, 127, 206, 206, 206, 206, 206, 139, 141, 161, 175, 194], 74, (0, 0), .null) 106 (by decide +kernel) (Or.inl ⟨_, _, _, _, rfl⟩) (by rw [e4]; decide) ?_
      replace h := h.1 e4
      refine WP.blk [(.aload_n 0, 1, (0, 0), .null), (.bipush 10, 2, (0, 0), .int 10), (.iload_n 2, 1, (0, 0), .null), (.iload 4, 2, (0, 0), .null)] (G := True) (c' := (112, [some (.ref 0), some (.int a1), some (.int a2), some (.int a3), some (.int (a3 + 1))], [.int (a3 + 1), .int a2, .int 10, .ref 0], M2)) (by decide +kernel) rfl trivial ?_
      refine WP.call (.invokevirtual 339, 3, (126, 4), .retAddr 6) (by decide +kernel) rfl (hB h (fun r5 M5 h => ?_))
      show WP (Ct (d + 1)) 126 Post (115, [some (.ref 0), some (.int a1), some (.int a2), some (.int a3), some (.int (a3 + 1))], [.int r5], M5)
      refine WP.blk [(.aload_n 0, 1, (0, 0), .null), (.iconst 1, 1, (0, 0), .int 1), (.iload_n 2, 1, (0, 0), .null), (.iload 4, 2, (0, 0), .null)] (G := True) (c' := (120, [some (.ref 0), some (.int a1), some (.int a2), some (.int a3), some (.int (a3 + 1))], [.int (a3 + 1), .int a2, .int 1, .ref 0, .int r5], M5)) (by decide +kernel) rfl trivial ?_
      refine WP.call (.invokevirtual 293, 3, (125, 4), .retAddr 6) (by decide +kernel) rfl (hA h (fun r6 M6 h => ?_))
      show WP (Ct (d + 1)) 126 Post (123, [some (.ref 0), some (.int a1), some (.int a2), some (.int a3), some (.int (a3 + 1))], [.int r6, .int r5], M6)
      refine WP.blk [(.iadd, 1, (0, 0), .null)] (G := True) (c' := (124, [some (.ref 0), some (.int a1), some (.int a2), some (.int a3), some (.int (a3 + 1))], [.int (r5 + r6)], M6)) (by decide +kernel) rfl trivial ?_
      exact WP.ret (.ireturn, 1, (0, 0), .null) (rk := 1) (by decide +kernel) (by decide +kernel) rfl trivial (hΦ _ _ h)
    replace h := h.2 e4
    by_cases e7 : a1 = 12
    · refine WP.sw (.tableswitch 206 10 24 #[74, 84, 103, 114, 127, 206, 206, 206, 206, 206, 139, 141, 161, 175, 194], 74, (0, 0), .null) 125 (by decide +kernel) (Or.inl ⟨_, _, _, _, rfl⟩) (by rw [e7]; decide) ?_
      replace h := h.1 e7
      refine WP.blk [(.aload_n 0, 1, (0, 0), .null), (.bipush 11, 2, (0, 0), .int 11), (.iload_n 2, 1, (0, 0), .null), (.iload 4, 2, (0, 0), .null)] (G := True) (c' := (131, [some (.ref 0), some (.int a1), some (.int a2), some (.int a3), some (.int (a3 + 1))], [.int (a3 + 1), .int a2, .int 11, .ref 0], M2)) (by decide +kernel) rfl trivial ?_
      refine WP.call (.invokevirtual 339, 3, (126, 4), .retAddr 6) (by decide +kernel) rfl (hB h (fun r8 M8 h => ?_))
      show WP (Ct (d + 1)) 126 Post (134, [some (.ref 0), some (.int a1), some (.int a2), some (.int a3), some (.int (a3 + 1))], [.int r8], M8)
      refine WP.blk [(.ineg, 1, (0, 0), .null)] (G := True) (c' := (135, [some (.ref 0), some (.int a1), some (.int a2), some (.int a3), some (.int (a3 + 1))], [.int (-r8)], M8)) (by decide +kernel) rfl trivial ?_
      exact WP.ret (.ireturn, 1, (0, 0), .null) (rk := 1) (by decide +kernel) (by decide +kernel) rfl trivial (hΦ _ _ h)
    replace h := h.2 e7
    by_cases e9 : a1 = 13
    · refine WP.sw (.tableswitch 206 10 24 #[74, 84, 103, 114, 127, 206, 206, 206, 206, 206, 139, 141, 161, 175, 194], 74, (0, 0), .null) 136 (by decide +kernel) (Or.inl ⟨_, _, _, _, rfl⟩) (by rw [e9]; decide) ?_
      replace h := h.1 e9
      refine WP.blk [(.aload_n 0, 1, (0, 0), .null), (.bipush 10, 2, (0, 0), .int 10), (.iload_n 2, 1, (0, 0), .null), (.iload 4, 2, (0, 0), .null)] (G := True) (c' := (142, [some (.ref 0), some (.int a1), some (.int a2), some (.int a3), some (.int (a3 + 1))], [.int (a3 + 1), .int a2, .int 10, .ref 0], M2)) (by decide +kernel) rfl trivial ?_
      refine WP.call (.invokevirtual 339, 3, (126, 4), .retAddr 6) (by decide +kernel) rfl (hB h (fun r10 M10 h => ?_))
      show WP (Ct (d + 1)) 126 Post (145, [some (.ref 0), some (.int a1), some (.int a2), some (.int a3), some (.int (a3 + 1))], [.int r10], M10)
      refine WP.blk [(.bipush 100, 2, (0, 0), .int 100), (.isub, 1, (0, 0), .null)] (G := True) (c' := (148, [some (.ref 0), some (.int a1), some (.int a2), some (.int a3), some (.int (a3 + 1))], [.int (r10 - 100)], M10)) (by decide +kernel) rfl trivial ?_
      exact WP.ret (.ireturn, 1, (0, 0), .null) (rk := 1) (by decide +kernel) (by decide +kernel) rfl trivial (hΦ _ _ h)
    replace h := h.2 e9
    by_cases e11 : a1 = 14
    · refine WP.sw (.tableswitch 206 10 24 #[74, 84, 103, 114, 127, 206, 206, 206, 206, 206, 139, 141, 161, 175, 194], 74, (0, 0), .null) 149 (by decide +kernel) (Or.inl ⟨_, _, _, _, rfl⟩) (by rw [e11]; decide) ?_
      replace h := h.1 e11
      refine WP.blk [(.iconst 2, 1, (0, 0), .int 2), (.aload_n 0, 1, (0, 0), .null), (.bipush 13, 2, (0, 0), .int 13), (.iload_n 2, 1, (0, 0), .null), (.iload 4, 2, (0, 0), .null)] (G := True) (c' := (156, [some (.ref 0), some (.int a1), some (.int a2), some (.int a3), some (.int (a3 + 1))], [.int (a3 + 1), .int a2, .int 13, .ref 0, .int 2], M2)) (by decide +kernel) rfl trivial ?_
      refine WP.call (.invokevirtual 339, 3, (126, 4), .retAddr 6) (by decide +kernel) rfl (hB h (fun r12 M12 h => ?_))
      show WP (Ct (d + 1)) 126 Post (159, [some (.ref 0), some (.int a1), some (.int a2), some (.int a3), some (.int (a3 + 1))], [.int r12, .int 2], M12)
      refine WP.blk [(.imul, 1, (0, 0), .null)] (G := True) (c' := (160, [some (.ref 0), some (.int a1), some (.int a2), some (.int a3), some (.int (a3 + 1))], [.int (2 * r12)], M12)) (by decide +kernel) rfl trivial ?_
      exact WP.ret (.ireturn, 1, (0, 0), .null) (rk := 1) (by decide +kernel) (by decide +kernel) rfl trivial (hΦ _ _ h)
    replace h := h.2 e11
    by_cases e13 : a1 = 15
    · refine WP.sw (.tableswitch 206 10 24 #[74, 84, 103, 114, 127, 206, 206, 206, 206, 206, 139, 141, 161, 175, 194], 74, (0, 0), .null) 228 (by decide +kernel) (Or.inl ⟨_, _, _, _, rfl⟩) (by rw [e13]; decide) ?_
      replace h := h.1 e13
      refine WP.blk [(.iconst 0, 1, (0, 0), .int 0)] (G := True) (c' := (229, [some (.ref 0), some (.int a1), some (.int a2), some (.int a3), some (.int (a3 + 1))], [.int 0], M2)) (by decide +kernel) rfl trivial ?_
      exact WP.ret (.ireturn, 1, (0, 0), .null) (rk := 1) (by decide +kernel) (by decide +kernel) rfl trivial (hΦ _ _ h)
    replace h := h.2 e13
    by_cases e14 : a1 = 16
    · refine WP.sw (.tableswitch 206 10 24 #[74, 84, 103, 114, 127, 206, 206, 206, 206, 206, 139, 141, 161, 175, 194], 74, (0, 0), .null) 228 (by decide +kernel) (Or.inl ⟨_, _, _, _, rfl⟩) (by rw [e14]; decide) ?_
      replace h := h.1 e14
      refine WP.blk [(.iconst 0, 1, (0, 0), .int 0)] (G := True) (c' := (229, [some (.ref 0), some (.int a1), some (.int a2), some (.int a3), some (.int (a3 + 1))], [.int 0], M2)) (by decide +kernel) rfl trivial ?_
      exact WP.ret (.ireturn, 1, (0, 0), .null) (rk := 1) (by decide +kernel) (by decide +kernel) rfl trivial (hΦ _ _ h)
    replace h := h.2 e14
    by_cases e15 : a1 = 17
    · refine WP.sw (.tableswitch 206 10 24 #[74, 84, 103, 114, 127, 206, 206, 206, 206, 206, 139, 141, 161, 175, 194], 74, (0, 0), .null) 228 (by decide +kernel) (Or.inl ⟨_, _, _, _, rfl⟩) (by rw [e15]; decide) ?_
      replace h := h.1 e15
      refine WP.blk [(.iconst 0, 1, (0, 0), .int 0)] (G := True) (c' := (229, [some (.ref 0), some (.int a1), some (.int a2), some (.int a3), some (.int (a3 + 1))], [.int 0], M2)) (by decide +kernel) rfl trivial ?_
      exact WP.ret (.ireturn, 1, (0, 0), .null) (rk := 1) (by decide +kernel) (by decide +kernel) rfl trivial (hΦ _ _ h)
    replace h := h.2 e15
    by_cases e16 : a1 = 18
    · refine WP.sw (.tableswitch 206 10 24 #[74, 84, 103, 114, 127, 206, 206, 206, 206, 206, 139, 141, 161, 175, 194], 74, (0, 0), .null) 228 (by decide +kernel) (Or.inl ⟨_, _, _, _, rfl⟩) (by rw [e16]; decide) ?_
      replace h := h.1 e16
      refine WP.blk [(.iconst 0, 1, (0, 0), .int 0)] (G := True) (c' := (229, [some (.ref 0), some (.int a1), some (.int a2), some (.int a3), some (.int (a3 + 1))], [.int 0], M2)) (by decide +kernel) rfl trivial ?_
      exact WP.ret (.ireturn, 1, (0, 0), .null) (rk := 1) (by decide +kernel) (by decide +kernel) rfl trivial (hΦ _ _ h)
    replace h := h.2 e16
    by_cases e17 : a1 = 19
    · refine WP.sw (.tableswitch 206 10 24 #[74, 84, 103, 114, 127, 206, 206, 206, 206, 206, 139, 141, 161, 175, 194], 74, (0, 0), .null) 228 (by decide +kernel) (Or.inl ⟨_, _, _, _, rfl⟩) (by rw [e17]; decide) ?_
      replace h := h.1 e17
      refine WP.blk [(.iconst 0, 1, (0, 0), .int 0)] (G := True) (c' := (229, [some (.ref 0), some (.int a1), some (.int a2), some (.int a3), some (.int (a3 + 1))], [.int 0], M2)) (by decide +kernel) rfl trivial ?_
      exact WP.ret (.ireturn, 1, (0, 0), .null) (rk := 1) (by decide +kernel) (by decide +kernel) rfl trivial (hΦ _ _ h)
    replace h := h.2 e17
    by_cases e18 : a1 = 20
    · refine WP.sw (.tableswitch 206 10 24 #[74, 84, 103, 114, 127, 206, 206, 206, 206, 206, 139, 141, 161, 175, 194], 74, (0, 0), .null) 161 (by decide +kernel) (Or.inl ⟨_, _, _, _, rfl⟩) (by rw [e18]; decide) ?_
      replace h := h.1 e18
      refine WP.blk [(.iload_n 2, 1, (0, 0), .null)] (G := True) (c' := (162, [some (.ref 0), some (.int a1), some (.int a2), some (.int a3), some (.int (a3 + 1))], [.int a2], M2)) (by decide +kernel) rfl trivial ?_
      exact WP.ret (.ireturn, 1, (0, 0), .null) (rk := 1) (by decide +kernel) (by decide +kernel) rfl trivial (hΦ _ _ h)
    replace h := h.2 e18
    by_cases e19 : a1 = 21
    · refine WP.sw (.tableswitch 206 10 24 #[74, 84, 103, 114, 127, 206, 206, 206, 206, 206, 139, 141, 161, 175, 194], 74, (0, 0), .null) 163 (by decide +kernel) (Or.inl ⟨_, _, _, _, rfl⟩) (by rw [e19]; decide) ?_
      replace h := h.1 e19
      refine WP.blk [(.aload_n 0, 1, (0, 0), .null), (.bipush 20, 2, (0, 0), .int 20), (.iload_n 2, 1, (0, 0), .null), (.iload 4, 2, (0, 0), .null)] (G := True) (c' := (169, [some (.ref 0), some (.int a1), some (.int a2), some (.int a3), some (.int (a3 + 1))], [.int (a3 + 1), .int a2, .int 20, .ref 0], M2)) (by decide +kernel) rfl trivial ?_
      refine WP.call (.invokevirtual 339, 3, (126, 4), .retAddr 6) (by decide +kernel) rfl (hB h (fun r20 M20 h => ?_))
      show WP (Ct (d + 1)) 126 Post (172, [some (.ref 0), some (.int a1), some (.int a2), some (.int a3), some (.int (a3 + 1))], [.int r20], M20)
      refine WP.blk [(.aload_n 0, 1, (0, 0), .null), (.getfield 26, 3, (6, 2), .null), (.getfield 193, 3, (1, 12), .null), (.iload_n 2, 1, (0, 0), .null), (.iaload, 1, (0, 0), .null), (.iadd, 1, (0, 0), .null)] (G := vp_in a2 6 ∧ True) (c' := (182, [some (.ref 0), some (.int a1), some (.int a2), some (.int a3), some (.int (a3 + 1))], [.int (r20 + (M20 11 (Int32.toNatClampNeg a2)))], M20)) (by decide +kernel) rfl ⟨h.1, trivial⟩ ?_
      replace h := h.2
      exact WP.ret (.ireturn, 1, (0, 0), .null) (rk := 1) (by decide +kernel) (by decide +kernel) rfl trivial (hΦ _ _ h)
    replace h := h.2 e19
    by_cases e21 : a1 = 22
    · refine WP.sw (.tableswitch 206 10 24 #[74, 84, 103, 114, 127, 206, 206, 206, 206, 206, 139, 141, 161, 175, 194], 74, (0, 0), .null) 183 (by decide +kernel) (Or.inl ⟨_, _, _, _, rfl⟩) (by rw [e21]; decide) ?_
      replace h := h.1 e21
      refine WP.blk [(.aload_n 0, 1, (0, 0), .null), (.bipush 21, 2, (0, 0), .int 21), (.iload_n 2, 1, (0, 0), .null), (.iload 4, 2, (0, 0), .null)] (G := True) (c' := (189, [some (.ref 0), some (.int a1), some (.int a2), some (.int a3), some (.int (a3 + 1))], [.int (a3 + 1), .int a2, .int 21, .ref 0], M2)) (by decide +kernel) rfl trivial ?_
      refine WP.call (.invokevirtual 339, 3, (126, 4), .retAddr 6) (by decide +kernel) rfl (hB h (fun r22 M22 h => ?_))
      show WP (Ct (d + 1)) 126 Post (192, [some (.ref 0), some (.int a1), some (.int a2), some (.int a3), some (.int (a3 + 1))], [.int r22], M22)
      refine WP.blk [(.sipush 1000, 3, (0, 0), .int 1000), (.isub, 1, (0, 0), .null)] (G := True) (c' := (196, [some (.ref 0), some (.int a1), some (.int a2), some (.int a3), some (.int (a3 + 1))], [.int (r22 - 1000)], M22)) (by decide +kernel) rfl trivial ?_
      exact WP.ret (.ireturn, 1, (0, 0), .null) (rk := 1) (by decide +kernel) (by decide +kernel) rfl trivial (hΦ _ _ h)
    replace h := h.2 e21
    by_cases e23 : a1 = 23
    · refine WP.sw (.tableswitch 206 10 24 #[74, 84, 103, 114, 127, 206, 206, 206, 206, 206, 139, 141, 161, 175, 194], 74, (0, 0), .null) 197 (by decide +kernel) (Or.inl ⟨_, _, _, _, rfl⟩) (by rw [e23]; decide) ?_
      replace h := h.1 e23
      refine WP.blk [(.aload_n 0, 1, (0, 0), .null), (.bipush 20, 2, (0, 0), .int 20), (.iload_n 2, 1, (0, 0), .null), (.iload 4, 2, (0, 0), .null)] (G := True) (c' := (203, [some (.ref 0), some (.int a1), some (.int a2), some (.int a3), some (.int (a3 + 1))], [.int (a3 + 1), .int a2, .int 20, .ref 0], M2)) (by decide +kernel) rfl trivial ?_
      refine WP.call (.invokevirtual 339, 3, (126, 4), .retAddr 6) (by decide +kernel) rfl (hB h (fun r24 M24 h => ?_))
      show WP (Ct (d + 1)) 126 Post (206, [some (.ref 0), some (.int a1), some (.int a2), some (.int a3), some (.int (a3 + 1))], [.int r24], M24)
      refine WP.blk [(.aload_n 0, 1, (0, 0), .null), (.iconst 0, 1, (0, 0), .int 0), (.iload_n 2, 1, (0, 0), .null), (.iload 4, 2, (0, 0), .null)] (G := True) (c' := (211, [some (.ref 0), some (.int a1), some (.int a2), some (.int a3), some (.int (a3 + 1))], [.int (a3 + 1), .int a2, .int 0, .ref 0, .int r24], M24)) (by decide +kernel) rfl trivial ?_
      refine WP.call (.invokevirtual 293, 3, (125, 4), .retAddr 6) (by decide +kernel) rfl (hA h (fun r25 M25 h => ?_))
      show WP (Ct (d + 1)) 126 Post (214, [some (.ref 0), some (.int a1), some (.int a2), some (.int a3), some (.int (a3 + 1))], [.int r25, .int r24], M25)
      refine WP.blk [(.isub, 1, (0, 0), .null)] (G := True) (c' := (215, [some (.ref 0), some (.int a1), some (.int a2), some (.int a3), some (.int (a3 + 1))], [.int (r24 - r25)], M25)) (by decide +kernel) rfl trivial ?_
      exact WP.ret (.ireturn, 1, (0, 0), .null) (rk := 1) (by decide +kernel) (by decide +kernel) rfl trivial (hΦ _ _ h)
    replace h := h.2 e23
    by_cases e26 : a1 = 24
    · refine WP.sw (.tableswitch 206 10 24 #[74, 84, 103, 114, 127, 206, 206, 206, 206, 206, 139, 141, 161, 175, 194], 74, (0, 0), .null) 216 (by decide +kernel) (Or.inl ⟨_, _, _, _, rfl⟩) (by rw [e26]; decide) ?_
      replace h := h.1 e26
      refine WP.blk [(.iconst 2, 1, (0, 0), .int 2), (.aload_n 0, 1, (0, 0), .null), (.bipush 21, 2, (0, 0), .int 21), (.iload_n 2, 1, (0, 0), .null), (.iload 4, 2, (0, 0), .null)] (G := True) (c' := (223, [some (.ref 0), some (.int a1), some (.int a2), some (.int a3), some (.int (a3 + 1))], [.int (a3 + 1), .int a2, .int 21, .ref 0, .int 2], M2)) (by decide +kernel) rfl trivial ?_
      refine WP.call (.invokevirtual 339, 3, (126, 4), .retAddr 6) (by decide +kernel) rfl (hB h (fun r27 M27 h => ?_))
      show WP (Ct (d + 1)) 126 Post (226, [some (.ref 0), some (.int a1), some (.int a2), some (.int a3), some (.int (a3 + 1))], [.int r27, .int 2], M27)
      refine WP.blk [(.imul, 1, (0, 0), .null)] (G := True) (c' := (227, [some (.ref 0), some (.int a1), some (.int a2), some (.int a3), some (.int (a3 + 1))], [.int (2 * r27)], M27)) (by decide +kernel) rfl trivial ?_
      exact WP.ret (.ireturn, 1, (0, 0), .null) (rk := 1) (by decide +kernel) (by decide +kernel) rfl trivial (hΦ _ _ h)
    replace h := h.2 e26
    refine WP.sw (.tableswitch 206 10 24 #[74, 84, 103, 114, 127, 206, 206, 206, 206, 206, 139, 141, 161, 175, 194], 74, (0, 0), .null) 228 (by decide +kernel) (Or.inl ⟨_, _, _, _, rfl⟩) (by rw [sw_out (by have := ne_toInt e3; rw [show (10 : Int32).toInt = 10 from by decide] at this; have := ne_toInt e4; rw [show (11 : Int32).toInt = 11 from by decide] at this; have := ne_toInt e7; rw [show (12 : Int32).toInt = 12 from by decide] at this; have := ne_toInt e9; rw [show (13 : Int32).toInt = 13 from by decide] at this; have := ne_toInt e11; rw [show (14 : Int32).toInt = 14 from by decide] at this; have := ne_toInt e13; rw [show (15 : Int32).toInt = 15 from by decide] at this; have := ne_toInt e14; rw [show (16 : Int32).toInt = 16 from by decide] at this; have := ne_toInt e15; rw [show (17 : Int32).toInt = 17 from by decide] at this; have := ne_toInt e16; rw [show (18 : Int32).toInt = 18 from by decide] at this; have := ne_toInt e17; rw [show (19 : Int32).toInt = 19 from by decide] at this; have := ne_toInt e18; rw [show (20 : Int32).toInt = 20 from by decide] at this; have := ne_toInt e19; rw [show (21 : Int32).toInt = 21 from by decide] at this; have := ne_toInt e21; rw [show (22 : Int32).toInt = 22 from by decide] at this; have := ne_toInt e23; rw [show (23 : Int32).toInt = 23 from by decide] at this; have := ne_toInt e26; rw [show (24 : Int32).toInt = 24 from by decide] at this; omega)]; rfl) ?_
    refine WP.blk [(.iconst 0, 1, (0, 0), .int 0)] (G := True) (c' := (229, [some (.ref 0), some (.int a1), some (.int a2), some (.int a3), some (.int (a3 + 1))], [.int 0], M2)) (by decide +kernel) rfl trivial ?_
    exact WP.ret (.ireturn, 1, (0, 0), .null) (rk := 1) (by decide +kernel) (by decide +kernel) rfl trivial (hΦ _ _ h)
  · replace h := h.2 c1
    refine WP.blk [(.iconst 0, 1, (0, 0), .int 0)] (G := True) (c' := (7, [some (.ref 0), some (.int a1), some (.int a2), some (.int a3), none], [.int 0], M)) (by decide +kernel) rfl trivial ?_
    exact WP.ret (.ireturn, 1, (0, 0), .null) (rk := 1) (by decide +kernel) (by decide +kernel) rfl trivial (hΦ _ _ h)
/-- bodies that open bodies, at most n deep -/
def S_body : Nat → Mm → Int32 → Int32 → Int32 → (Int32 → Mm → Prop) → Prop
  | 0, _, _, _, _, _ => False
  | n + 1, M, a1, a2, a3, Φ => S_body_F (S_body n) (S_asked_F (S_body n)) M a1 a2 a3 Φ
theorem sp_body : ∀ (n : Nat) {d : Nat} {Post : Option Value → Mm → Prop} {M : Mm} {a1 a2 a3 : Int32} {Φ : Int32 → Mm → Prop}, S_body n M a1 a2 a3 Φ → (∀ r M1, Φ r M1 → Post (some (.int r)) M1) → Ct (d + (2 * n + 1)) 126 [.ref 0, .int a1, .int a2, .int a3] M Post
  | 0, _, _, _, _, _, _, _, h, _ => h.elim
  | n + 1, d, Post, M, a1, a2, a3, Φ, h, hΦ => by
    have hB : ∀ {d : Nat} {Post : Option Value → Mm → Prop} {M : Mm} {b1 b2 b3 : Int32} {Ψ : Int32 → Mm → Prop}, S_body n M b1 b2 b3 Ψ → (∀ r M1, Ψ r M1 → Post (some (.int r)) M1) → Ct (d + (2 * n + 1)) 126 [.ref 0, .int b1, .int b2, .int b3] M Post := fun h k => sp_body n h k
    exact sp_body_F (d := d + (2 * n + 1)) (fun h k => Ct.up _ _ _ _ _ (hB (d := d) h k)) (fun h k => sp_asked_F (d := d + (2 * n)) (fun h k => hB (d := d) h k) h k) h hΦ
def S_asked (M : Mm) (a1 a2 a3 : Int32) (Φ : Int32 → Mm → Prop) : Prop := S_asked_F (S_body 6) M a1 a2 a3 Φ
theorem sp_asked {d : Nat} {Post : Option Value → Mm → Prop} {M : Mm} {a1 a2 a3 : Int32} {Φ : Int32 → Mm → Prop} (h : S_asked M a1 a2 a3 Φ) (hΦ : ∀ r M1, Φ r M1 → Post (some (.int r)) M1) : Ct (d + 14) 125 [.ref 0, .int a1, .int a2, .int a3] M Post :=
  sp_asked_F (d := d + 12) (fun h k => sp_body 6 (d := d) h k) h hΦ
/-- GearRoad.ask(II)I -/
def S_ask (M : Mm) (a1 : Int32) (a2 : Int32) (Φ : Int32 → Mm → Prop) : Prop := S_Bike_hasCog 7 M a1 (fun r1 => ((r1 = 0 → Φ (-1000001) M) ∧ (¬ (r1 = 0) → S_within M a2 0 1 (fun r3 => ((r3 = 0 → Φ (-1000001) M) ∧ (¬ (r3 = 0) → (∀ M5, M5 = mu M 37 1 0 → S_asked M5 a2 a1 0 (fun r6 M6 => Φ r6 M6))))))))
set_option maxRecDepth 100000 in
set_option maxHeartbeats 4000000 in
theorem sp_ask {d : Nat} {Post : Option Value → Mm → Prop} {M : Mm} {a1 : Int32} {a2 : Int32} {Φ : Int32 → Mm → Prop} (h : S_ask M a1 a2 Φ) (hΦ : ∀ r M1, Φ r M1 → Post (some (.int r)) M1) : Ct (d + 15) 124 [.ref 0, .int a1, .int a2] M Post := by
  refine Ct.go (n := 3) (E := [some (.ref 0), some (.int a1), some (.int a2)]) (by decide +kernel) (by simp [Value.category]) rfl ?_
  refine WP.blk [(.aload_n 0, 1, (0, 0), .null), (.getfield 26, 3, (6, 2), .null), (.iload_n 1, 1, (0, 0), .null)] (G := True) (c' := (5, [some (.ref 0), some (.int a1), some (.int a2)], [.int a1, .ref 7], M)) (by decide +kernel) rfl trivial ?_
  refine WP.call (.invokevirtual 187, 3, (50, 2), .retAddr 1) (by decide +kernel) rfl (sp_Bike_hasCog (d := d + 12) (by decide) h (fun r1 h => ?_))
  show WP (Ct (d + 14)) 124 Post (8, [some (.ref 0), some (.int a1), some (.int a2)], [.int r1], M)
  refine WP.br (.ifCond .eq 12, 3, (20, 0), .null) (by decide +kernel) rfl (fun c2 => ?_) (fun c2 => ?_)
  · replace h := h.1 c2
    refine WP.blk [(.ldc 73, 2, (0, 0), .int (-1000001))] (G := True) (c' := (22, [some (.ref 0), some (.int a1), some (.int a2)], [.int (-1000001)], M)) (by decide +kernel) rfl trivial ?_
    exact WP.ret (.ireturn, 1, (0, 0), .null) (rk := 1) (by decide +kernel) (by decide +kernel) rfl trivial (hΦ _ _ h)
  · replace h := h.2 c2
    refine WP.blk [(.iload_n 2, 1, (0, 0), .null), (.iconst 0, 1, (0, 0), .int 0), (.iconst 1, 1, (0, 0), .int 1)] (G := True) (c' := (14, [some (.ref 0), some (.int a1), some (.int a2)], [.int 1, .int 0, .int a2], M)) (by decide +kernel) rfl trivial ?_
    refine WP.call (.invokestatic 69, 3, (10, 3), .null) (by decide +kernel) rfl (sp_within (d := d + 13) h (fun r3 h => ?_))
    show WP (Ct (d + 14)) 124 Post (17, [some (.ref 0), some (.int a1), some (.int a2)], [.int r3], M)
    refine WP.br (.ifCond .ne 6, 3, (23, 0), .null) (by decide +kernel) rfl (fun c4 => ?_) (fun c4 => ?_)
    · replace h := h.2 c4
      refine WP.blk [(.aload_n 0, 1, (0, 0), .null), (.getfield 54, 3, (6, 7), .null), (.iconst 0, 1, (0, 0), .int 0), (.putfield 292, 3, (5, 1), .null)] (G := True) (c' := (31, [some (.ref 0), some (.int a1), some (.int a2)], [], (mu M 37 1 0))) (by decide +kernel) rfl trivial ?_
      replace h := h (mu M 37 1 0) rfl
      generalize (mu M 37 1 0) = M5 at h ⊢
      refine WP.blk [(.aload_n 0, 1, (0, 0), .null), (.iload_n 2, 1, (0, 0), .null), (.iload_n 1, 1, (0, 0), .null), (.iconst 0, 1, (0, 0), .int 0)] (G := True) (c' := (35, [some (.ref 0), some (.int a1), some (.int a2)], [.int 0, .int a1, .int a2, .ref 0], M5)) (by decide +kernel) rfl trivial ?_
      refine WP.call (.invokevirtual 293, 3, (125, 4), .retAddr 6) (by decide +kernel) rfl (sp_asked (d := d + 0) h (fun r6 M6 h => ?_))
      show WP (Ct (d + 14)) 124 Post (38, [some (.ref 0), some (.int a1), some (.int a2)], [.int r6], M6)
      exact WP.ret (.ireturn, 1, (0, 0), .null) (rk := 1) (by decide +kernel) (by decide +kernel) rfl trivial (hΦ _ _ h)
    · replace h := h.1 (Classical.not_not.mp c4)
      refine WP.blk [(.ldc 73, 2, (0, 0), .int (-1000001))] (G := True) (c' := (22, [some (.ref 0), some (.int a1), some (.int a2)], [.int (-1000001)], M)) (by decide +kernel) rfl trivial ?_
      exact WP.ret (.ireturn, 1, (0, 0), .null) (rk := 1) (by decide +kernel) (by decide +kernel) rfl trivial (hΦ _ _ h)
