/-- GearRoad.within(III)Z -/
def S_within (M : Mm) (a1 : Int32) (a2 : Int32) (a3 : Int32) (Φ : Int32 → Prop) : Prop := ((a1 < a2 → Φ 0) ∧ (¬ (a1 < a2) → ((a3 < a1 → Φ 0) ∧ (¬ (a3 < a1) → Φ 1))))
set_option maxRecDepth 100000 in
set_option maxHeartbeats 4000000 in
theorem sp_within {d : Nat} {Post : Option Value → Mm → Prop} {M : Mm} {a1 : Int32} {a2 : Int32} {a3 : Int32} {Φ : Int32 → Prop} (h : S_within M a1 a2 a3 Φ) (hΦ : ∀ r, Φ r → Post (some (.int r)) M) : Ct (d + 1) 10 [.int a1, .int a2, .int a3] M Post := by
  refine Ct.go (n := 3) (E := [some (.int a1), some (.int a2), some (.int a3)]) (by decide +kernel) (by simp [Value.category]) rfl ?_
  refine WP.blk [(.iload_n 0, 1, (0, 0), .null), (.iload_n 1, 1, (0, 0), .null)] (G := True) (c' := (2, [some (.int a1), some (.int a2), some (.int a3)], [.int a2, .int a1], M)) (by decide +kernel) rfl trivial ?_
  refine WP.br (.if_icmp .lt 12, 3, (14, 0), .null) (by decide +kernel) rfl (fun c1 => ?_) (fun c1 => ?_)
  · replace h := h.1 c1
    refine WP.blk [(.iconst 0, 1, (0, 0), .int 0)] (G := True) (c' := (15, [some (.int a1), some (.int a2), some (.int a3)], [.int 0], M)) (by decide +kernel) rfl trivial ?_
    exact WP.ret (.ireturn, 1, (0, 0), .null) (rk := 2) (by decide +kernel) (by decide +kernel) rfl (by decide) (hΦ _ h)
  · replace h := h.2 c1
    refine WP.blk [(.iload_n 0, 1, (0, 0), .null), (.iload_n 2, 1, (0, 0), .null)] (G := True) (c' := (7, [some (.int a1), some (.int a2), some (.int a3)], [.int a3, .int a1], M)) (by decide +kernel) rfl trivial ?_
    refine WP.br (.if_icmp .gt 7, 3, (14, 0), .null) (by decide +kernel) rfl (fun c2 => ?_) (fun c2 => ?_)
    · replace h := h.1 c2
      refine WP.blk [(.iconst 0, 1, (0, 0), .int 0)] (G := True) (c' := (15, [some (.int a1), some (.int a2), some (.int a3)], [.int 0], M)) (by decide +kernel) rfl trivial ?_
      exact WP.ret (.ireturn, 1, (0, 0), .null) (rk := 2) (by decide +kernel) (by decide +kernel) rfl (by decide) (hΦ _ h)
    · replace h := h.2 c2
      refine WP.blk [(.iconst 1, 1, (0, 0), .int 1), (.goto 4, 3, (15, 0), .null)] (G := True) (c' := (15, [some (.int a1), some (.int a2), some (.int a3)], [.int 1], M)) (by decide +kernel) rfl trivial ?_
      exact WP.ret (.ireturn, 1, (0, 0), .null) (rk := 2) (by decide +kernel) (by decide +kernel) rfl (by decide) (hΦ _ h)
/-- GearRoad$Bike.hasPiece(I)Z -/
def S_Bike_hasPiece (k : Nat) (M : Mm) (a1 : Int32) (Φ : Int32 → Prop) : Prop := S_within M a1 0 ((M k 3) - 1) (fun r1 => ((r1 = 0 ∨ r1 = 1) ∧ Φ r1))
set_option maxRecDepth 100000 in
set_option maxHeartbeats 4000000 in
theorem sp_Bike_hasPiece {d : Nat} {Post : Option Value → Mm → Prop} {k : Nat} {M : Mm} {a1 : Int32} {Φ : Int32 → Prop} (hk : k = 7 ∨ k = 13) (h : S_Bike_hasPiece k M a1 Φ) (hΦ : ∀ r, Φ r → Post (some (.int r)) M) : Ct (d + 2) 45 [.ref k, .int a1] M Post := by
  rcases hk with rfl | rfl
  · refine Ct.go (n := 2) (E := [some (.ref 7), some (.int a1)]) (by decide +kernel) (by simp [Value.category]) rfl ?_
    refine WP.blk [(.iload_n 1, 1, (0, 0), .null), (.iconst 0, 1, (0, 0), .int 0), (.aload_n 0, 1, (0, 0), .null), (.getfield 22, 3, (1, 3), .null), (.iconst 1, 1, (0, 0), .int 1), (.isub, 1, (0, 0), .null)] (G := True) (c' := (8, [some (.ref 7), some (.int a1)], [.int ((M 7 3) - 1), .int 0, .int a1], M)) (by decide +kernel) rfl trivial ?_
    refine WP.call (.invokestatic 62, 3, (10, 3), .null) (by decide +kernel) rfl (sp_within (d := d + 0) h (fun r1 h => ?_))
    show WP (Ct (d + 1)) 45 Post (11, [some (.ref 7), some (.int a1)], [.int r1], M)
    exact WP.ret (.ireturn, 1, (0, 0), .null) (rk := 2) (by decide +kernel) (by decide +kernel) rfl h.1 (hΦ _ h.2)
  · refine Ct.go (n := 2) (E := [some (.ref 13), some (.int a1)]) (by decide +kernel) (by simp [Value.category]) rfl ?_
    refine WP.blk [(.iload_n 1, 1, (0, 0), .null), (.iconst 0, 1, (0, 0), .int 0), (.aload_n 0, 1, (0, 0), .null), (.getfield 22, 3, (1, 3), .null), (.iconst 1, 1, (0, 0), .int 1), (.isub, 1, (0, 0), .null)] (G := True) (c' := (8, [some (.ref 13), some (.int a1)], [.int ((M 13 3) - 1), .int 0, .int a1], M)) (by decide +kernel) rfl trivial ?_
    refine WP.call (.invokestatic 62, 3, (10, 3), .null) (by decide +kernel) rfl (sp_within (d := d + 0) h (fun r1 h => ?_))
    show WP (Ct (d + 1)) 45 Post (11, [some (.ref 13), some (.int a1)], [.int r1], M)
    exact WP.ret (.ireturn, 1, (0, 0), .null) (rk := 2) (by decide +kernel) (by decide +kernel) rfl h.1 (hΦ _ h.2)
/-- GearRoad$Bike.gear()I -/
def S_Bike_gear (k : Nat) (M : Mm) (Φ : Int32 → Prop) : Prop := Φ (((M k 5) * 6) + (M k 6))
set_option maxRecDepth 100000 in
set_option maxHeartbeats 4000000 in
theorem sp_Bike_gear {d : Nat} {Post : Option Value → Mm → Prop} {k : Nat} {M : Mm} {Φ : Int32 → Prop} (hk : k = 7 ∨ k = 13) (h : S_Bike_gear k M Φ) (hΦ : ∀ r, Φ r → Post (some (.int r)) M) : Ct (d + 1) 46 [.ref k] M Post := by
  rcases hk with rfl | rfl
  · refine Ct.go (n := 1) (E := [some (.ref 7)]) (by decide +kernel) (by simp [Value.category]) rfl ?_
    refine WP.blk [(.aload_n 0, 1, (0, 0), .null), (.getfield 28, 3, (1, 5), .null), (.bipush 6, 2, (0, 0), .int 6), (.imul, 1, (0, 0), .null), (.aload_n 0, 1, (0, 0), .null), (.getfield 31, 3, (1, 6), .null), (.iadd, 1, (0, 0), .null)] (G := True) (c' := (12, [some (.ref 7)], [.int (((M 7 5) * 6) + (M 7 6))], M)) (by decide +kernel) rfl trivial ?_
    exact WP.ret (.ireturn, 1, (0, 0), .null) (rk := 1) (by decide +kernel) (by decide +kernel) rfl trivial (hΦ _ h)
  · refine Ct.go (n := 1) (E := [some (.ref 13)]) (by decide +kernel) (by simp [Value.category]) rfl ?_
    refine WP.blk [(.aload_n 0, 1, (0, 0), .null), (.getfield 28, 3, (1, 5), .null), (.bipush 6, 2, (0, 0), .int 6), (.imul, 1, (0, 0), .null), (.aload_n 0, 1, (0, 0), .null), (.getfield 31, 3, (1, 6), .null), (.iadd, 1, (0, 0), .null)] (G := True) (c' := (12, [some (.ref 13)], [.int (((M 13 5) * 6) + (M 13 6))], M)) (by decide +kernel) rfl trivial ?_
    exact WP.ret (.ireturn, 1, (0, 0), .null) (rk := 1) (by decide +kernel) (by decide +kernel) rfl trivial (hΦ _ h)
/-- GearRoad$Bike.hasRing(I)Z -/
def S_Bike_hasRing (k : Nat) (M : Mm) (a1 : Int32) (Φ : Int32 → Prop) : Prop := S_within M a1 0 ((M k 1) - 1) (fun r1 => ((r1 = 0 ∨ r1 = 1) ∧ Φ r1))
set_option maxRecDepth 100000 in
set_option maxHeartbeats 4000000 in
theorem sp_Bike_hasRing {d : Nat} {Post : Option Value → Mm → Prop} {k : Nat} {M : Mm} {a1 : Int32} {Φ : Int32 → Prop} (hk : k = 7 ∨ k = 13) (h : S_Bike_hasRing k M a1 Φ) (hΦ : ∀ r, Φ r → Post (some (.int r)) M) : Ct (d + 2) 49 [.ref k, .int a1] M Post := by
  rcases hk with rfl | rfl
  · refine Ct.go (n := 2) (E := [some (.ref 7), some (.int a1)]) (by decide +kernel) (by simp [Value.category]) rfl ?_
    refine WP.blk [(.iload_n 1, 1, (0, 0), .null), (.iconst 0, 1, (0, 0), .int 0), (.aload_n 0, 1, (0, 0), .null), (.getfield 15, 3, (1, 1), .null), (.iconst 1, 1, (0, 0), .int 1), (.isub, 1, (0, 0), .null)] (G := True) (c' := (8, [some (.ref 7), some (.int a1)], [.int ((M 7 1) - 1), .int 0, .int a1], M)) (by decide +kernel) rfl trivial ?_
    refine WP.call (.invokestatic 62, 3, (10, 3), .null) (by decide +kernel) rfl (sp_within (d := d + 0) h (fun r1 h => ?_))
    show WP (Ct (d + 1)) 49 Post (11, [some (.ref 7), some (.int a1)], [.int r1], M)
    exact WP.ret (.ireturn, 1, (0, 0), .null) (rk := 2) (by decide +kernel) (by decide +kernel) rfl h.1 (hΦ _ h.2)
  · refine Ct.go (n := 2) (E := [some (.ref 13), some (.int a1)]) (by decide +kernel) (by simp [Value.category]) rfl ?_
    refine WP.blk [(.iload_n 1, 1, (0, 0), .null), (.iconst 0, 1, (0, 0), .int 0), (.aload_n 0, 1, (0, 0), .null), (.getfield 15, 3, (1, 1), .null), (.iconst 1, 1, (0, 0), .int 1), (.isub, 1, (0, 0), .null)] (G := True) (c' := (8, [some (.ref 13), some (.int a1)], [.int ((M 13 1) - 1), .int 0, .int a1], M)) (by decide +kernel) rfl trivial ?_
    refine WP.call (.invokestatic 62, 3, (10, 3), .null) (by decide +kernel) rfl (sp_within (d := d + 0) h (fun r1 h => ?_))
    show WP (Ct (d + 1)) 49 Post (11, [some (.ref 13), some (.int a1)], [.int r1], M)
    exact WP.ret (.ireturn, 1, (0, 0), .null) (rk := 2) (by decide +kernel) (by decide +kernel) rfl h.1 (hΦ _ h.2)
/-- GearRoad$Bike.hasCog(I)Z -/
def S_Bike_hasCog (k : Nat) (M : Mm) (a1 : Int32) (Φ : Int32 → Prop) : Prop := S_within M a1 0 ((M k 2) - 1) (fun r1 => ((r1 = 0 ∨ r1 = 1) ∧ Φ r1))
set_option maxRecDepth 100000 in
set_option maxHeartbeats 4000000 in
theorem sp_Bike_hasCog {d : Nat} {Post : Option Value → Mm → Prop} {k : Nat} {M : Mm} {a1 : Int32} {Φ : Int32 → Prop} (hk : k = 7 ∨ k = 13) (h : S_Bike_hasCog k M a1 Φ) (hΦ : ∀ r, Φ r → Post (some (.int r)) M) : Ct (d + 2) 50 [.ref k, .int a1] M Post := by
  rcases hk with rfl | rfl
  · refine Ct.go (n := 2) (E := [some (.ref 7), some (.int a1)]) (by decide +kernel) (by simp [Value.category]) rfl ?_
    refine WP.blk [(.iload_n 1, 1, (0, 0), .null), (.iconst 0, 1, (0, 0), .int 0), (.aload_n 0, 1, (0, 0), .null), (.getfield 19, 3, (1, 2), .null), (.iconst 1, 1, (0, 0), .int 1), (.isub, 1, (0, 0), .null)] (G := True) (c' := (8, [some (.ref 7), some (.int a1)], [.int ((M 7 2) - 1), .int 0, .int a1], M)) (by decide +kernel) rfl trivial ?_
    refine WP.call (.invokestatic 62, 3, (10, 3), .null) (by decide +kernel) rfl (sp_within (d := d + 0) h (fun r1 h => ?_))
    show WP (Ct (d + 1)) 50 Post (11, [some (.ref 7), some (.int a1)], [.int r1], M)
    exact WP.ret (.ireturn, 1, (0, 0), .null) (rk := 2) (by decide +kernel) (by decide +kernel) rfl h.1 (hΦ _ h.2)
  · refine Ct.go (n := 2) (E := [some (.ref 13), some (.int a1)]) (by decide +kernel) (by simp [Value.category]) rfl ?_
    refine WP.blk [(.iload_n 1, 1, (0, 0), .null), (.iconst 0, 1, (0, 0), .int 0), (.aload_n 0, 1, (0, 0), .null), (.getfield 19, 3, (1, 2), .null), (.iconst 1, 1, (0, 0), .int 1), (.isub, 1, (0, 0), .null)] (G := True) (c' := (8, [some (.ref 13), some (.int a1)], [.int ((M 13 2) - 1), .int 0, .int a1], M)) (by decide +kernel) rfl trivial ?_
    refine WP.call (.invokestatic 62, 3, (10, 3), .null) (by decide +kernel) rfl (sp_within (d := d + 0) h (fun r1 h => ?_))
    show WP (Ct (d + 1)) 50 Post (11, [some (.ref 13), some (.int a1)], [.int r1], M)
    exact WP.ret (.ireturn, 1, (0, 0), .null) (rk := 2) (by decide +kernel) (by decide +kernel) rfl h.1 (hΦ _ h.2)
/-- GearRoad$Bike.hasGear(I)Z -/
def S_Bike_hasGear (k : Nat) (M : Mm) (a1 : Int32) (Φ : Int32 → Prop) : Prop := ((a1 < 0 → Φ 0) ∧ (¬ (a1 < 0) → S_Bike_hasRing k M (a1 / 6) (fun r2 => ((r2 = 0 → Φ 0) ∧ (¬ (r2 = 0) → S_Bike_hasCog k M (irm a1 6) (fun r4 => ((r4 = 0 → Φ 0) ∧ (¬ (r4 = 0) → Φ 1))))))))
set_option maxRecDepth 100000 in
set_option maxHeartbeats 4000000 in
theorem sp_Bike_hasGear {d : Nat} {Post : Option Value → Mm → Prop} {k : Nat} {M : Mm} {a1 : Int32} {Φ : Int32 → Prop} (hk : k = 7 ∨ k = 13) (h : S_Bike_hasGear k M a1 Φ) (hΦ : ∀ r, Φ r → Post (some (.int r)) M) : Ct (d + 3) 48 [.ref k, .int a1] M Post := by
  rcases hk with rfl | rfl
  · refine Ct.go (n := 2) (E := [some (.ref 7), some (.int a1)]) (by decide +kernel) (by simp [Value.category]) rfl ?_
    refine WP.blk [(.iload_n 1, 1, (0, 0), .null)] (G := True) (c' := (1, [some (.ref 7), some (.int a1)], [.int a1], M)) (by decide +kernel) rfl trivial ?_
    refine WP.br (.ifCond .lt 29, 3, (30, 0), .null) (by decide +kernel) rfl (fun c1 => ?_) (fun c1 => ?_)
    · replace h := h.1 c1
      refine WP.blk [(.iconst 0, 1, (0, 0), .int 0)] (G := True) (c' := (31, [some (.ref 7), some (.int a1)], [.int 0], M)) (by decide +kernel) rfl trivial ?_
      exact WP.ret (.ireturn, 1, (0, 0), .null) (rk := 2) (by decide +kernel) (by decide +kernel) rfl (by decide) (hΦ _ h)
    · replace h := h.2 c1
      refine WP.blk [(.aload_n 0, 1, (0, 0), .null), (.iload_n 1, 1, (0, 0), .null), (.bipush 6, 2, (0, 0), .int 6), (.idiv, 1, (0, 0), .null)] (G := ¬ (6 : Int32) = 0 ∧ True) (c' := (9, [some (.ref 7), some (.int a1)], [.int (a1 / 6), .ref 7], M)) (by decide +kernel) rfl ⟨(by decide), trivial⟩ ?_
      refine WP.call (.invokevirtual 66, 3, (49, 2), .null) (by decide +kernel) rfl (sp_Bike_hasRing (d := d + 0) (by decide) h (fun r2 h => ?_))
      show WP (Ct (d + 2)) 48 Post (12, [some (.ref 7), some (.int a1)], [.int r2], M)
      refine WP.br (.ifCond .eq 18, 3, (30, 0), .null) (by decide +kernel) rfl (fun c3 => ?_) (fun c3 => ?_)
      · replace h := h.1 c3
        refine WP.blk [(.iconst 0, 1, (0, 0), .int 0)] (G := True) (c' := (31, [some (.ref 7), some (.int a1)], [.int 0], M)) (by decide +kernel) rfl trivial ?_
        exact WP.ret (.ireturn, 1, (0, 0), .null) (rk := 2) (by decide +kernel) (by decide +kernel) rfl (by decide) (hΦ _ h)
      · replace h := h.2 c3
        refine WP.blk [(.aload_n 0, 1, (0, 0), .null), (.iload_n 1, 1, (0, 0), .null), (.bipush 6, 2, (0, 0), .int 6), (.irem, 1, (0, 0), .null)] (G := ¬ (6 : Int32) = 0 ∧ True) (c' := (20, [some (.ref 7), some (.int a1)], [.int (irm a1 6), .ref 7], M)) (by decide +kernel) rfl ⟨(by decide), trivial⟩ ?_
        refine WP.call (.invokevirtual 70, 3, (50, 2), .null) (by decide +kernel) rfl (sp_Bike_hasCog (d := d + 0) (by decide) h (fun r4 h => ?_))
        show WP (Ct (d + 2)) 48 Post (23, [some (.ref 7), some (.int a1)], [.int r4], M)
        refine WP.br (.ifCond .eq 7, 3, (30, 0), .null) (by decide +kernel) rfl (fun c5 => ?_) (fun c5 => ?_)
        · replace h := h.1 c5
          refine WP.blk [(.iconst 0, 1, (0, 0), .int 0)] (G := True) (c' := (31, [some (.ref 7), some (.int a1)], [.int 0], M)) (by decide +kernel) rfl trivial ?_
          exact WP.ret (.ireturn, 1, (0, 0), .null) (rk := 2) (by decide +kernel) (by decide +kernel) rfl (by decide) (hΦ _ h)
        · replace h := h.2 c5
          refine WP.blk [(.iconst 1, 1, (0, 0), .int 1), (.goto 4, 3, (31, 0), .null)] (G := True) (c' := (31, [some (.ref 7), some (.int a1)], [.int 1], M)) (by decide +kernel) rfl trivial ?_
          exact WP.ret (.ireturn, 1, (0, 0), .null) (rk := 2) (by decide +kernel) (by decide +kernel) rfl (by decide) (hΦ _ h)
  · refine Ct.go (n := 2) (E := [some (.ref 13), some (.int a1)]) (by decide +kernel) (by simp [Value.category]) rfl ?_
    refine WP.blk [(.iload_n 1, 1, (0, 0), .null)] (G := True) (c' := (1, [some (.ref 13), some (.int a1)], [.int a1], M)) (by decide +kernel) rfl trivial ?_
    refine WP.br (.ifCond .lt 29, 3, (30, 0), .null) (by decide +kernel) rfl (fun c1 => ?_) (fun c1 => ?_)
    · replace h := h.1 c1
      refine WP.blk [(.iconst 0, 1, (0, 0), .int 0)] (G := True) (c' := (31, [some (.ref 13), some (.int a1)], [.int 0], M)) (by decide +kernel) rfl trivial ?_
      exact WP.ret (.ireturn, 1, (0, 0), .null) (rk := 2) (by decide +kernel) (by decide +kernel) rfl (by decide) (hΦ _ h)
    · replace h := h.2 c1
      refine WP.blk [(.aload_n 0, 1, (0, 0), .null), (.iload_n 1, 1, (0, 0), .null), (.bipush 6, 2, (0, 0), .int 6), (.idiv, 1, (0, 0), .null)] (G := ¬ (6 : Int32) = 0 ∧ True) (c' := (9, [some (.ref 13), some (.int a1)], [.int (a1 / 6), .ref 13], M)) (by decide +kernel) rfl ⟨(by decide), trivial⟩ ?_
      refine WP.call (.invokevirtual 66, 3, (49, 2), .null) (by decide +kernel) rfl (sp_Bike_hasRing (d := d + 0) (by decide) h (fun r2 h => ?_))
      show WP (Ct (d + 2)) 48 Post (12, [some (.ref 13), some (.int a1)], [.int r2], M)
      refine WP.br (.ifCond .eq 18, 3, (30, 0), .null) (by decide +kernel) rfl (fun c3 => ?_) (fun c3 => ?_)
      · replace h := h.1 c3
        refine WP.blk [(.iconst 0, 1, (0, 0), .int 0)] (G := True) (c' := (31, [some (.ref 13), some (.int a1)], [.int 0], M)) (by decide +kernel) rfl trivial ?_
        exact WP.ret (.ireturn, 1, (0, 0), .null) (rk := 2) (by decide +kernel) (by decide +kernel) rfl (by decide) (hΦ _ h)
      · replace h := h.2 c3
        refine WP.blk [(.aload_n 0, 1, (0, 0), .null), (.iload_n 1, 1, (0, 0), .null), (.bipush 6, 2, (0, 0), .int 6), (.irem, 1, (0, 0), .null)] (G := ¬ (6 : Int32) = 0 ∧ True) (c' := (20, [some (.ref 13), some (.int a1)], [.int (irm a1 6), .ref 13], M)) (by decide +kernel) rfl ⟨(by decide), trivial⟩ ?_
        refine WP.call (.invokevirtual 70, 3, (50, 2), .null) (by decide +kernel) rfl (sp_Bike_hasCog (d := d + 0) (by decide) h (fun r4 h => ?_))
        show WP (Ct (d + 2)) 48 Post (23, [some (.ref 13), some (.int a1)], [.int r4], M)
        refine WP.br (.ifCond .eq 7, 3, (30, 0), .null) (by decide +kernel) rfl (fun c5 => ?_) (fun c5 => ?_)
        · replace h := h.1 c5
          refine WP.blk [(.iconst 0, 1, (0, 0), .int 0)] (G := True) (c' := (31, [some (.ref 13), some (.int a1)], [.int 0], M)) (by decide +kernel) rfl trivial ?_
          exact WP.ret (.ireturn, 1, (0, 0), .null) (rk := 2) (by decide +kernel) (by decide +kernel) rfl (by decide) (hΦ _ h)
        · replace h := h.2 c5
          refine WP.blk [(.iconst 1, 1, (0, 0), .int 1), (.goto 4, 3, (31, 0), .null)] (G := True) (c' := (31, [some (.ref 13), some (.int a1)], [.int 1], M)) (by decide +kernel) rfl trivial ?_
          exact WP.ret (.ireturn, 1, (0, 0), .null) (rk := 2) (by decide +kernel) (by decide +kernel) rfl (by decide) (hΦ _ h)
/-- GearRoad$Bike.loadBy(IIII)I -/
def D_Bike_loadBy_28 (M : Mm) (Φ : Int32 → Prop) : Int32 → Prop
  | x1 => Φ (x1 - (x1 / 10))
def S_Bike_loadBy (M : Mm) (a1 : Int32) (a2 : Int32) (a3 : Int32) (a4 : Int32) (Φ : Int32 → Prop) : Prop := ((0 < a2 → ¬ a2 = 0 ∧ ((a3 = 4 → D_Bike_loadBy_28 M Φ ((((a4 + 1) * a1) * 10) / a2)) ∧ (¬ (a3 = 4) → ((a3 = 5 → D_Bike_loadBy_28 M Φ ((((a4 + 1) * a1) * 10) / a2)) ∧ (¬ (a3 = 5) → Φ ((((a4 + 1) * a1) * 10) / a2)))))) ∧ (¬ (0 < a2) → Φ 0))
set_option maxRecDepth 100000 in
set_option maxHeartbeats 4000000 in
theorem L_Bike_loadBy_28 {d : Nat} {Post : Option Value → Mm → Prop} {M : Mm} {Φ : Int32 → Prop} (hΦ : ∀ r, Φ r → Post (some (.int r)) M) : ∀ (x1 : Int32), D_Bike_loadBy_28 M Φ x1 → WP (Ct (d + 0)) 52 Post (28, [none, none, none, none, some (.int x1)], [], M) := by
  intro x1 h
  refine WP.blk [(.iload 4, 2, (0, 0), .null), (.iload 4, 2, (0, 0), .null), (.bipush 10, 2, (0, 0), .int 10), (.idiv, 1, (0, 0), .null), (.isub, 1, (0, 0), .null), (.goto 5, 3, (41, 0), .null)] (G := ¬ (10 : Int32) = 0 ∧ True) (c' := (41, [none, none, none, none, some (.int x1)], [.int (x1 - (x1 / 10))], M)) (by decide +kernel) rfl ⟨(by decide), trivial⟩ ?_
  exact WP.ret (.ireturn, 1, (0, 0), .null) (rk := 1) (by decide +kernel) (by decide +kernel) rfl trivial (hΦ _ h)
set_option maxRecDepth 100000 in
set_option maxHeartbeats 4000000 in
theorem sp_Bike_loadBy {d : Nat} {Post : Option Value → Mm → Prop} {M : Mm} {a1 : Int32} {a2 : Int32} {a3 : Int32} {a4 : Int32} {Φ : Int32 → Prop} (h : S_Bike_loadBy M a1 a2 a3 a4 Φ) (hΦ : ∀ r, Φ r → Post (some (.int r)) M) : Ct (d + 1) 52 [.int a1, .int a2, .int a3, .int a4] M Post := by
  refine Ct.go (n := 5) (E := [some (.int a1), some (.int a2), some (.int a3), some (.int a4), none]) (by decide +kernel) (by simp [Value.category]) rfl ?_
  refine WP.blk [(.iload_n 1, 1, (0, 0), .null)] (G := True) (c' := (1, [some (.int a1), some (.int a2), some (.int a3), some (.int a4), none], [.int a2], M)) (by decide +kernel) rfl trivial ?_
  refine WP.br (.ifCond .gt 5, 3, (6, 0), .null) (by decide +kernel) rfl (fun c1 => ?_) (fun c1 => ?_)
  · replace h := h.1 c1
    refine WP.blk [(.iload_n 3, 1, (0, 0), .null), (.iconst 1, 1, (0, 0), .int 1), (.iadd, 1, (0, 0), .null), (.iload_n 0, 1, (0, 0), .null), (.imul, 1, (0, 0), .null), (.bipush 10, 2, (0, 0), .int 10), (.imul, 1, (0, 0), .null), (.iload_n 1, 1, (0, 0), .null), (.idiv, 1, (0, 0), .null), (.istore 4, 2, (0, 0), .null), (.iload_n 2, 1, (0, 0), .null), (.iconst 4, 1, (0, 0), .int 4)] (G := ¬ a2 = 0 ∧ True) (c' := (20, [some (.int a1), some (.int a2), some (.int a3), some (.int a4), some (.int ((((a4 + 1) * a1) * 10) / a2))], [.int 4, .int a3], M)) (by decide +kernel) rfl ⟨h.1, trivial⟩ ?_
    replace h := h.2
    refine WP.br (.if_icmp .eq 8, 3, (28, 0), .null) (by decide +kernel) rfl (fun c2 => ?_) (fun c2 => ?_)
    · replace h := h.1 c2
      refine WP.fgt [none, none, none, none, some (.int ((((a4 + 1) * a1) * 10) / a2))] (by simp [fgt]) ?_
      exact L_Bike_loadBy_28 hΦ _ h
    · replace h := h.2 c2
      refine WP.blk [(.iload_n 2, 1, (0, 0), .null), (.iconst 5, 1, (0, 0), .int 5)] (G := True) (c' := (25, [some (.int a1), some (.int a2), some (.int a3), some (.int a4), some (.int ((((a4 + 1) * a1) * 10) / a2))], [.int 5, .int a3], M)) (by decide +kernel) rfl trivial ?_
      refine WP.br (.if_icmp .ne 14, 3, (39, 0), .null) (by decide +kernel) rfl (fun c3 => ?_) (fun c3 => ?_)
      · replace h := h.2 c3
        refine WP.blk [(.iload 4, 2, (0, 0), .null)] (G := True) (c' := (41, [some (.int a1), some (.int a2), some (.int a3), some (.int a4), some (.int ((((a4 + 1) * a1) * 10) / a2))], [.int ((((a4 + 1) * a1) * 10) / a2)], M)) (by decide +kernel) rfl trivial ?_
        exact WP.ret (.ireturn, 1, (0, 0), .null) (rk := 1) (by decide +kernel) (by decide +kernel) rfl trivial (hΦ _ h)
      · replace h := h.1 (Classical.not_not.mp c3)
        refine WP.fgt [none, none, none, none, some (.int ((((a4 + 1) * a1) * 10) / a2))] (by simp [fgt]) ?_
        exact L_Bike_loadBy_28 hΦ _ h
  · replace h := h.2 c1
    refine WP.blk [(.iconst 0, 1, (0, 0), .int 0)] (G := True) (c' := (5, [some (.int a1), some (.int a2), some (.int a3), some (.int a4), none], [.int 0], M)) (by decide +kernel) rfl trivial ?_
    exact WP.ret (.ireturn, 1, (0, 0), .null) (rk := 1) (by decide +kernel) (by decide +kernel) rfl trivial (hΦ _ h)
/-- GearRoad$Bike.loadOf(II)I -/
def S_Bike_loadOf (k : Nat) (M : Mm) (a1 : Int32) (a2 : Int32) (Φ : Int32 → Prop) : Prop := S_Bike_hasGear k M a1 (fun r1 => ((r1 = 0 → Φ 0) ∧ (¬ (r1 = 0) → vp_in (a1 / 6) 3 ∧ vp_in (irm a1 6) 6 ∧ vp_in (irm a1 6) 6 ∧ S_Bike_loadBy M (M (k + 1) (Int32.toNatClampNeg (a1 / 6))) (M (k + 3) (Int32.toNatClampNeg (irm a1 6))) (M (k + 2) (Int32.toNatClampNeg (irm a1 6))) a2 (fun r3 => Φ r3))))
set_option maxRecDepth 100000 in
set_option maxHeartbeats 4000000 in
theorem sp_Bike_loadOf {d : Nat} {Post : Option Value → Mm → Prop} {k : Nat} {M : Mm} {a1 : Int32} {a2 : Int32} {Φ : Int32 → Prop} (hk : k = 7 ∨ k = 13) (h : S_Bike_loadOf k M a1 a2 Φ) (hΦ : ∀ r, Φ r → Post (some (.int r)) M) : Ct (d + 4) 51 [.ref k, .int a1, .int a2] M Post := by
  rcases hk with rfl | rfl
  · refine Ct.go (n := 3) (E := [some (.ref 7), some (.int a1), some (.int a2)]) (by decide +kernel) (by simp [Value.category]) rfl ?_
    refine WP.blk [(.aload_n 0, 1, (0, 0), .null), (.iload_n 1, 1, (0, 0), .null)] (G := True) (c' := (2, [some (.ref 7), some (.int a1), some (.int a2)], [.int a1, .ref 7], M)) (by decide +kernel) rfl trivial ?_
    refine WP.call (.invokevirtual 73, 3, (48, 2), .null) (by decide +kernel) rfl (sp_Bike_hasGear (d := d + 0) (by decide) h (fun r1 h => ?_))
    show WP (Ct (d + 3)) 51 Post (5, [some (.ref 7), some (.int a1), some (.int a2)], [.int r1], M)
    refine WP.br (.ifCond .ne 5, 3, (10, 0), .null) (by decide +kernel) rfl (fun c2 => ?_) (fun c2 => ?_)
    · replace h := h.2 c2
      refine WP.blk [(.aload_n 0, 1, (0, 0), .null), (.getfield 40, 3, (1, 9), .null), (.iload_n 1, 1, (0, 0), .null), (.bipush 6, 2, (0, 0), .int 6), (.idiv, 1, (0, 0), .null), (.iaload, 1, (0, 0), .null), (.aload_n 0, 1, (0, 0), .null), (.getfield 47, 3, (1, 11), .null), (.iload_n 1, 1, (0, 0), .null), (.bipush 6, 2, (0, 0), .int 6), (.irem, 1, (0, 0), .null), (.iaload, 1, (0, 0), .null), (.aload_n 0, 1, (0, 0), .null), (.getfield 44, 3, (1, 10), .null), (.iload_n 1, 1, (0, 0), .null), (.bipush 6, 2, (0, 0), .int 6), (.irem, 1, (0, 0), .null), (.iaload, 1, (0, 0), .null), (.iload_n 2, 1, (0, 0), .null)] (G := ¬ (6 : Int32) = 0 ∧ vp_in (a1 / 6) 3 ∧ ¬ (6 : Int32) = 0 ∧ vp_in (irm a1 6) 6 ∧ ¬ (6 : Int32) = 0 ∧ vp_in (irm a1 6) 6 ∧ True) (c' := (38, [some (.ref 7), some (.int a1), some (.int a2)], [.int a2, .int (M 9 (Int32.toNatClampNeg (irm a1 6))), .int (M 10 (Int32.toNatClampNeg (irm a1 6))), .int (M 8 (Int32.toNatClampNeg (a1 / 6)))], M)) (by decide +kernel) rfl ⟨(by decide), h.1, (by decide), h.2.1, (by decide), h.2.2.1, trivial⟩ ?_
      replace h := h.2.2.2
      refine WP.call (.invokestatic 76, 3, (52, 4), .null) (by decide +kernel) rfl (sp_Bike_loadBy (d := d + 2) h (fun r3 h => ?_))
      show WP (Ct (d + 3)) 51 Post (41, [some (.ref 7), some (.int a1), some (.int a2)], [.int r3], M)
      exact WP.ret (.ireturn, 1, (0, 0), .null) (rk := 1) (by decide +kernel) (by decide +kernel) rfl trivial (hΦ _ h)
    · replace h := h.1 (Classical.not_not.mp c2)
      refine WP.blk [(.iconst 0, 1, (0, 0), .int 0)] (G := True) (c' := (9, [some (.ref 7), some (.int a1), some (.int a2)], [.int 0], M)) (by decide +kernel) rfl trivial ?_
      exact WP.ret (.ireturn, 1, (0, 0), .null) (rk := 1) (by decide +kernel) (by decide +kernel) rfl trivial (hΦ _ h)
  · refine Ct.go (n := 3) (E := [some (.ref 13), some (.int a1), some (.int a2)]) (by decide +kernel) (by simp [Value.category]) rfl ?_
    refine WP.blk [(.aload_n 0, 1, (0, 0), .null), (.iload_n 1, 1, (0, 0), .null)] (G := True) (c' := (2, [some (.ref 13), some (.int a1), some (.int a2)], [.int a1, .ref 13], M)) (by decide +kernel) rfl trivial ?_
    refine WP.call (.invokevirtual 73, 3, (48, 2), .null) (by decide +kernel) rfl (sp_Bike_hasGear (d := d + 0) (by decide) h (fun r1 h => ?_))
    show WP (Ct (d + 3)) 51 Post (5, [some (.ref 13), some (.int a1), some (.int a2)], [.int r1], M)
    refine WP.br (.ifCond .ne 5, 3, (10, 0), .null) (by decide +kernel) rfl (fun c2 => ?_) (fun c2 => ?_)
    · replace h := h.2 c2
      refine WP.blk [(.aload_n 0, 1, (0, 0), .null), (.getfield 40, 3, (1, 9), .null), (.iload_n 1, 1, (0, 0), .null), (.bipush 6, 2, (0, 0), .int 6), (.idiv, 1, (0, 0), .null), (.iaload, 1, (0, 0), .null), (.aload_n 0, 1, (0, 0), .null), (.getfield 47, 3, (1, 11), .null), (.iload_n 1, 1, (0, 0), .null), (.bipush 6, 2, (0, 0), .int 6), (.irem, 1, (0, 0), .null), (.iaload, 1, (0, 0), .null), (.aload_n 0, 1, (0, 0), .null), (.getfield 44, 3, (1, 10), .null), (.iload_n 1, 1, (0, 0), .null), (.bipush 6, 2, (0, 0), .int 6), (.irem, 1, (0, 0), .null), (.iaload, 1, (0, 0), .null), (.iload_n 2, 1, (0, 0), .null)] (G := ¬ (6 : Int32) = 0 ∧ vp_in (a1 / 6) 3 ∧ ¬ (6 : Int32) = 0 ∧ vp_in (irm a1 6) 6 ∧ ¬ (6 : Int32) = 0 ∧ vp_in (irm a1 6) 6 ∧ True) (c' := (38, [some (.ref 13), some (.int a1), some (.int a2)], [.int a2, .int (M 15 (Int32.toNatClampNeg (irm a1 6))), .int (M 16 (Int32.toNatClampNeg (irm a1 6))), .int (M 14 (Int32.toNatClampNeg (a1 / 6)))], M)) (by decide +kernel) rfl ⟨(by decide), h.1, (by decide), h.2.1, (by decide), h.2.2.1, trivial⟩ ?_
      replace h := h.2.2.2
      refine WP.call (.invokestatic 76, 3, (52, 4), .null) (by decide +kernel) rfl (sp_Bike_loadBy (d := d + 2) h (fun r3 h => ?_))
      show WP (Ct (d + 3)) 51 Post (41, [some (.ref 13), some (.int a1), some (.int a2)], [.int r3], M)
      exact WP.ret (.ireturn, 1, (0, 0), .null) (rk := 1) (by decide +kernel) (by decide +kernel) rfl trivial (hΦ _ h)
    · replace h := h.1 (Classical.not_not.mp c2)
      refine WP.blk [(.iconst 0, 1, (0, 0), .int 0)] (G := True) (c' := (9, [some (.ref 13), some (.int a1), some (.int a2)], [.int 0], M)) (by decide +kernel) rfl trivial ?_
      exact WP.ret (.ireturn, 1, (0, 0), .null) (rk := 1) (by decide +kernel) (by decide +kernel) rfl trivial (hΦ _ h)
/-- GearRoad$Bike.bears(II)Z -/
def S_Bike_bears (k : Nat) (M : Mm) (a1 : Int32) (a2 : Int32) (Φ : Int32 → Prop) : Prop := S_Bike_hasGear k M a1 (fun r1 => ((r1 = 0 → Φ 0) ∧ (¬ (r1 = 0) → S_Bike_loadOf k M a1 a2 (fun r3 => (((M k 4) < r3 → Φ 0) ∧ (¬ ((M k 4) < r3) → Φ 1))))))
set_option maxRecDepth 100000 in
set_option maxHeartbeats 4000000 in
theorem sp_Bike_bears {d : Nat} {Post : Option Value → Mm → Prop} {k : Nat} {M : Mm} {a1 : Int32} {a2 : Int32} {Φ : Int32 → Prop} (hk : k = 7 ∨ k = 13) (h : S_Bike_bears k M a1 a2 Φ) (hΦ : ∀ r, Φ r → Post (some (.int r)) M) : Ct (d + 5) 47 [.ref k, .int a1, .int a2] M Post := by
  rcases hk with rfl | rfl
  · refine Ct.go (n := 3) (E := [some (.ref 7), some (.int a1), some (.int a2)]) (by decide +kernel) (by simp [Value.category]) rfl ?_
    refine WP.blk [(.aload_n 0, 1, (0, 0), .null), (.iload_n 1, 1, (0, 0), .null)] (G := True) (c' := (2, [some (.ref 7), some (.int a1), some (.int a2)], [.int a1, .ref 7], M)) (by decide +kernel) rfl trivial ?_
    refine WP.call (.invokevirtual 73, 3, (48, 2), .null) (by decide +kernel) rfl (sp_Bike_hasGear (d := d + 1) (by decide) h (fun r1 h => ?_))
    show WP (Ct (d + 4)) 47 Post (5, [some (.ref 7), some (.int a1), some (.int a2)], [.int r1], M)
    refine WP.br (.ifCond .eq 20, 3, (25, 0), .null) (by decide +kernel) rfl (fun c2 => ?_) (fun c2 => ?_)
    · replace h := h.1 c2
      refine WP.blk [(.iconst 0, 1, (0, 0), .int 0)] (G := True) (c' := (26, [some (.ref 7), some (.int a1), some (.int a2)], [.int 0], M)) (by decide +kernel) rfl trivial ?_
      exact WP.ret (.ireturn, 1, (0, 0), .null) (rk := 2) (by decide +kernel) (by decide +kernel) rfl (by decide) (hΦ _ h)
    · replace h := h.2 c2
      refine WP.blk [(.aload_n 0, 1, (0, 0), .null), (.iload_n 1, 1, (0, 0), .null), (.iload_n 2, 1, (0, 0), .null)] (G := True) (c' := (11, [some (.ref 7), some (.int a1), some (.int a2)], [.int a2, .int a1, .ref 7], M)) (by decide +kernel) rfl trivial ?_
      refine WP.call (.invokevirtual 84, 3, (51, 3), .null) (by decide +kernel) rfl (sp_Bike_loadOf (d := d + 0) (by decide) h (fun r3 h => ?_))
      show WP (Ct (d + 4)) 47 Post (14, [some (.ref 7), some (.int a1), some (.int a2)], [.int r3], M)
      refine WP.blk [(.aload_n 0, 1, (0, 0), .null), (.getfield 25, 3, (1, 4), .null)] (G := True) (c' := (18, [some (.ref 7), some (.int a1), some (.int a2)], [.int (M 7 4), .int r3], M)) (by decide +kernel) rfl trivial ?_
      refine WP.br (.if_icmp .gt 7, 3, (25, 0), .null) (by decide +kernel) rfl (fun c4 => ?_) (fun c4 => ?_)
      · replace h := h.1 c4
        refine WP.blk [(.iconst 0, 1, (0, 0), .int 0)] (G := True) (c' := (26, [some (.ref 7), some (.int a1), some (.int a2)], [.int 0], M)) (by decide +kernel) rfl trivial ?_
        exact WP.ret (.ireturn, 1, (0, 0), .null) (rk := 2) (by decide +kernel) (by decide +kernel) rfl (by decide) (hΦ _ h)
      · replace h := h.2 c4
        refine WP.blk [(.iconst 1, 1, (0, 0), .int 1), (.goto 4, 3, (26, 0), .null)] (G := True) (c' := (26, [some (.ref 7), some (.int a1), some (.int a2)], [.int 1], M)) (by decide +kernel) rfl trivial ?_
        exact WP.ret (.ireturn, 1, (0, 0), .null) (rk := 2) (by decide +kernel) (by decide +kernel) rfl (by decide) (hΦ _ h)
  · refine Ct.go (n := 3) (E := [some (.ref 13), some (.int a1), some (.int a2)]) (by decide +kernel) (by simp [Value.category]) rfl ?_
    refine WP.blk [(.aload_n 0, 1, (0, 0), .null), (.iload_n 1, 1, (0, 0), .null)] (G := True) (c' := (2, [some (.ref 13), some (.int a1), some (.int a2)], [.int a1, .ref 13], M)) (by decide +kernel) rfl trivial ?_
    refine WP.call (.invokevirtual 73, 3, (48, 2), .null) (by decide +kernel) rfl (sp_Bike_hasGear (d := d + 1) (by decide) h (fun r1 h => ?_))
    show WP (Ct (d + 4)) 47 Post (5, [some (.ref 13), some (.int a1), some (.int a2)], [.int r1], M)
    refine WP.br (.ifCond .eq 20, 3, (25, 0), .null) (by decide +kernel) rfl (fun c2 => ?_) (fun c2 => ?_)
    · replace h := h.1 c2
      refine WP.blk [(.iconst 0, 1, (0, 0), .int 0)] (G := True) (c' := (26, [some (.ref 13), some (.int a1), some (.int a2)], [.int 0], M)) (by decide +kernel) rfl trivial ?_
      exact WP.ret (.ireturn, 1, (0, 0), .null) (rk := 2) (by decide +kernel) (by decide +kernel) rfl (by decide) (hΦ _ h)
    · replace h := h.2 c2
      refine WP.blk [(.aload_n 0, 1, (0, 0), .null), (.iload_n 1, 1, (0, 0), .null), (.iload_n 2, 1, (0, 0), .null)] (G := True) (c' := (11, [some (.ref 13), some (.int a1), some (.int a2)], [.int a2, .int a1, .ref 13], M)) (by decide +kernel) rfl trivial ?_
      refine WP.call (.invokevirtual 84, 3, (51, 3), .null) (by decide +kernel) rfl (sp_Bike_loadOf (d := d + 0) (by decide) h (fun r3 h => ?_))
      show WP (Ct (d + 4)) 47 Post (14, [some (.ref 13), some (.int a1), some (.int a2)], [.int r3], M)
      refine WP.blk [(.aload_n 0, 1, (0, 0), .null), (.getfield 25, 3, (1, 4), .null)] (G := True) (c' := (18, [some (.ref 13), some (.int a1), some (.int a2)], [.int (M 13 4), .int r3], M)) (by decide +kernel) rfl trivial ?_
      refine WP.br (.if_icmp .gt 7, 3, (25, 0), .null) (by decide +kernel) rfl (fun c4 => ?_) (fun c4 => ?_)
      · replace h := h.1 c4
        refine WP.blk [(.iconst 0, 1, (0, 0), .int 0)] (G := True) (c' := (26, [some (.ref 13), some (.int a1), some (.int a2)], [.int 0], M)) (by decide +kernel) rfl trivial ?_
        exact WP.ret (.ireturn, 1, (0, 0), .null) (rk := 2) (by decide +kernel) (by decide +kernel) rfl (by decide) (hΦ _ h)
      · replace h := h.2 c4
        refine WP.blk [(.iconst 1, 1, (0, 0), .int 1), (.goto 4, 3, (26, 0), .null)] (G := True) (c' := (26, [some (.ref 13), some (.int a1), some (.int a2)], [.int 1], M)) (by decide +kernel) rfl trivial ?_
        exact WP.ret (.ireturn, 1, (0, 0), .null) (rk := 2) (by decide +kernel) (by decide +kernel) rfl (by decide) (hΦ _ h)
/-- GearRoad$Bike.canRide()Z -/
def S_Bike_canRide (k : Nat) (M : Mm) (Φ : Int32 → Prop) : Prop := S_Bike_hasPiece k M (M k 7) (fun r1 => ((r1 = 0 → Φ 0) ∧ (¬ (r1 = 0) → S_Bike_gear k M (fun r3 => vp_in (M k 7) 6 ∧ S_Bike_bears k M r3 (M (k + 5) (Int32.toNatClampNeg (M k 7))) (fun r4 => ((r4 = 0 → Φ 0) ∧ (¬ (r4 = 0) → Φ 1)))))))
set_option maxRecDepth 100000 in
set_option maxHeartbeats 4000000 in
theorem sp_Bike_canRide {d : Nat} {Post : Option Value → Mm → Prop} {k : Nat} {M : Mm} {Φ : Int32 → Prop} (hk : k = 7 ∨ k = 13) (h : S_Bike_canRide k M Φ) (hΦ : ∀ r, Φ r → Post (some (.int r)) M) : Ct (d + 6) 44 [.ref k] M Post := by
  rcases hk with rfl | rfl
  · refine Ct.go (n := 1) (E := [some (.ref 7)]) (by decide +kernel) (by simp [Value.category]) rfl ?_
    refine WP.blk [(.aload_n 0, 1, (0, 0), .null), (.aload_n 0, 1, (0, 0), .null), (.getfield 34, 3, (1, 7), .null)] (G := True) (c' := (5, [some (.ref 7)], [.int (M 7 7), .ref 7], M)) (by decide +kernel) rfl trivial ?_
    refine WP.call (.invokevirtual 92, 3, (45, 2), .null) (by decide +kernel) rfl (sp_Bike_hasPiece (d := d + 3) (by decide) h (fun r1 h => ?_))
    show WP (Ct (d + 5)) 44 Post (8, [some (.ref 7)], [.int r1], M)
    refine WP.br (.ifCond .eq 27, 3, (35, 0), .null) (by decide +kernel) rfl (fun c2 => ?_) (fun c2 => ?_)
    · replace h := h.1 c2
      refine WP.blk [(.iconst 0, 1, (0, 0), .int 0)] (G := True) (c' := (36, [some (.ref 7)], [.int 0], M)) (by decide +kernel) rfl trivial ?_
      exact WP.ret (.ireturn, 1, (0, 0), .null) (rk := 2) (by decide +kernel) (by decide +kernel) rfl (by decide) (hΦ _ h)
    · replace h := h.2 c2
      refine WP.blk [(.aload_n 0, 1, (0, 0), .null), (.aload_n 0, 1, (0, 0), .null)] (G := True) (c' := (13, [some (.ref 7)], [.ref 7, .ref 7], M)) (by decide +kernel) rfl trivial ?_
      refine WP.call (.invokevirtual 95, 3, (46, 1), .null) (by decide +kernel) rfl (sp_Bike_gear (d := d + 4) (by decide) h (fun r3 h => ?_))
      show WP (Ct (d + 5)) 44 Post (16, [some (.ref 7)], [.int r3, .ref 7], M)
      refine WP.blk [(.aload_n 0, 1, (0, 0), .null), (.getfield 53, 3, (1, 13), .null), (.aload_n 0, 1, (0, 0), .null), (.getfield 34, 3, (1, 7), .null), (.iaload, 1, (0, 0), .null)] (G := vp_in (M 7 7) 6 ∧ True) (c' := (25, [some (.ref 7)], [.int (M 12 (Int32.toNatClampNeg (M 7 7))), .int r3, .ref 7], M)) (by decide +kernel) rfl ⟨h.1, trivial⟩ ?_
      replace h := h.2
      refine WP.call (.invokevirtual 88, 3, (47, 3), .null) (by decide +kernel) rfl (sp_Bike_bears (d := d + 0) (by decide) h (fun r4 h => ?_))
      show WP (Ct (d + 5)) 44 Post (28, [some (.ref 7)], [.int r4], M)
      refine WP.br (.ifCond .eq 7, 3, (35, 0), .null) (by decide +kernel) rfl (fun c5 => ?_) (fun c5 => ?_)
      · replace h := h.1 c5
        refine WP.blk [(.iconst 0, 1, (0, 0), .int 0)] (G := True) (c' := (36, [some (.ref 7)], [.int 0], M)) (by decide +kernel) rfl trivial ?_
        exact WP.ret (.ireturn, 1, (0, 0), .null) (rk := 2) (by decide +kernel) (by decide +kernel) rfl (by decide) (hΦ _ h)
      · replace h := h.2 c5
        refine WP.blk [(.iconst 1, 1, (0, 0), .int 1), (.goto 4, 3, (36, 0), .null)] (G := True) (c' := (36, [some (.ref 7)], [.int 1], M)) (by decide +kernel) rfl trivial ?_
        exact WP.ret (.ireturn, 1, (0, 0), .null) (rk := 2) (by decide +kernel) (by decide +kernel) rfl (by decide) (hΦ _ h)
  · refine Ct.go (n := 1) (E := [some (.ref 13)]) (by decide +kernel) (by simp [Value.category]) rfl ?_
    refine WP.blk [(.aload_n 0, 1, (0, 0), .null), (.aload_n 0, 1, (0, 0), .null), (.getfield 34, 3, (1, 7), .null)] (G := True) (c' := (5, [some (.ref 13)], [.int (M 13 7), .ref 13], M)) (by decide +kernel) rfl trivial ?_
    refine WP.call (.invokevirtual 92, 3, (45, 2), .null) (by decide +kernel) rfl (sp_Bike_hasPiece (d := d + 3) (by decide) h (fun r1 h => ?_))
    show WP (Ct (d + 5)) 44 Post (8, [some (.ref 13)], [.int r1], M)
    refine WP.br (.ifCond .eq 27, 3, (35, 0), .null) (by decide +kernel) rfl (fun c2 => ?_) (fun c2 => ?_)
    · replace h := h.1 c2
      refine WP.blk [(.iconst 0, 1, (0, 0), .int 0)] (G := True) (c' := (36, [some (.ref 13)], [.int 0], M)) (by decide +kernel) rfl trivial ?_
      exact WP.ret (.ireturn, 1, (0, 0), .null) (rk := 2) (by decide +kernel) (by decide +kernel) rfl (by decide) (hΦ _ h)
    · replace h := h.2 c2
      refine WP.blk [(.aload_n 0, 1, (0, 0), .null), (.aload_n 0, 1, (0, 0), .null)] (G := True) (c' := (13, [some (.ref 13)], [.ref 13, .ref 13], M)) (by decide +kernel) rfl trivial ?_
      refine WP.call (.invokevirtual 95, 3, (46, 1), .null) (by decide +kernel) rfl (sp_Bike_gear (d := d + 4) (by decide) h (fun r3 h => ?_))
      show WP (Ct (d + 5)) 44 Post (16, [some (.ref 13)], [.int r3, .ref 13], M)
      refine WP.blk [(.aload_n 0, 1, (0, 0), .null), (.getfield 53, 3, (1, 13), .null), (.aload_n 0, 1, (0, 0), .null), (.getfield 34, 3, (1, 7), .null), (.iaload, 1, (0, 0), .null)] (G := vp_in (M 13 7) 6 ∧ True) (c' := (25, [some (.ref 13)], [.int (M 18 (Int32.toNatClampNeg (M 13 7))), .int r3, .ref 13], M)) (by decide +kernel) rfl ⟨h.1, trivial⟩ ?_
      replace h := h.2
      refine WP.call (.invokevirtual 88, 3, (47, 3), .null) (by decide +kernel) rfl (sp_Bike_bears (d := d + 0) (by decide) h (fun r4 h => ?_))
      show WP (Ct (d + 5)) 44 Post (28, [some (.ref 13)], [.int r4], M)
      refine WP.br (.ifCond .eq 7, 3, (35, 0), .null) (by decide +kernel) rfl (fun c5 => ?_) (fun c5 => ?_)
      · replace h := h.1 c5
        refine WP.blk [(.iconst 0, 1, (0, 0), .int 0)] (G := True) (c' := (36, [some (.ref 13)], [.int 0], M)) (by decide +kernel) rfl trivial ?_
        exact WP.ret (.ireturn, 1, (0, 0), .null) (rk := 2) (by decide +kernel) (by decide +kernel) rfl (by decide) (hΦ _ h)
      · replace h := h.2 c5
        refine WP.blk [(.iconst 1, 1, (0, 0), .int 1), (.goto 4, 3, (36, 0), .null)] (G := True) (c' := (36, [some (.ref 13)], [.int 1], M)) (by decide +kernel) rfl trivial ?_
        exact WP.ret (.ireturn, 1, (0, 0), .null) (rk := 2) (by decide +kernel) (by decide +kernel) rfl (by decide) (hΦ _ h)
/-- GearRoad$Bike.turnsBy(III)I -/
def S_Bike_turnsBy (M : Mm) (a1 : Int32) (a2 : Int32) (a3 : Int32) (Φ : Int32 → Prop) : Prop := ((0 < a1 → ¬ a1 = 0 ∧ ((a3 = 2 → Φ ((((100 * a2) / a1) + 1) + ((((100 * a2) / a1) + 1) / 4))) ∧ (¬ (a3 = 2) → Φ (((100 * a2) / a1) + 1)))) ∧ (¬ (0 < a1) → Φ 0))
set_option maxRecDepth 100000 in
set_option maxHeartbeats 4000000 in
theorem sp_Bike_turnsBy {d : Nat} {Post : Option Value → Mm → Prop} {M : Mm} {a1 : Int32} {a2 : Int32} {a3 : Int32} {Φ : Int32 → Prop} (h : S_Bike_turnsBy M a1 a2 a3 Φ) (hΦ : ∀ r, Φ r → Post (some (.int r)) M) : Ct (d + 1) 57 [.int a1, .int a2, .int a3] M Post := by
  refine Ct.go (n := 4) (E := [some (.int a1), some (.int a2), some (.int a3), none]) (by decide +kernel) (by simp [Value.category]) rfl ?_
  refine WP.blk [(.iload_n 0, 1, (0, 0), .null)] (G := True) (c' := (1, [some (.int a1), some (.int a2), some (.int a3), none], [.int a1], M)) (by decide +kernel) rfl trivial ?_
  refine WP.br (.ifCond .gt 5, 3, (6, 0), .null) (by decide +kernel) rfl (fun c1 => ?_) (fun c1 => ?_)
  · replace h := h.1 c1
    refine WP.blk [(.bipush 100, 2, (0, 0), .int 100), (.iload_n 1, 1, (0, 0), .null), (.imul, 1, (0, 0), .null), (.iload_n 0, 1, (0, 0), .null), (.idiv, 1, (0, 0), .null), (.iconst 1, 1, (0, 0), .int 1), (.iadd, 1, (0, 0), .null), (.istore_n 3, 1, (0, 0), .null), (.iload_n 2, 1, (0, 0), .null), (.iconst 2, 1, (0, 0), .int 2)] (G := ¬ a1 = 0 ∧ True) (c' := (17, [some (.int a1), some (.int a2), some (.int a3), some (.int (((100 * a2) / a1) + 1))], [.int 2, .int a3], M)) (by decide +kernel) rfl ⟨h.1, trivial⟩ ?_
    replace h := h.2
    refine WP.br (.if_icmp .ne 11, 3, (28, 0), .null) (by decide +kernel) rfl (fun c2 => ?_) (fun c2 => ?_)
    · replace h := h.2 c2
      refine WP.blk [(.iload_n 3, 1, (0, 0), .null)] (G := True) (c' := (29, [some (.int a1), some (.int a2), some (.int a3), some (.int (((100 * a2) / a1) + 1))], [.int (((100 * a2) / a1) + 1)], M)) (by decide +kernel) rfl trivial ?_
      exact WP.ret (.ireturn, 1, (0, 0), .null) (rk := 1) (by decide +kernel) (by decide +kernel) rfl trivial (hΦ _ h)
    · replace h := h.1 (Classical.not_not.mp c2)
      refine WP.blk [(.iload_n 3, 1, (0, 0), .null), (.iload_n 3, 1, (0, 0), .null), (.iconst 4, 1, (0, 0), .int 4), (.idiv, 1, (0, 0), .null), (.iadd, 1, (0, 0), .null), (.goto 4, 3, (29, 0), .null)] (G := ¬ (4 : Int32) = 0 ∧ True) (c' := (29, [some (.int a1), some (.int a2), some (.int a3), some (.int (((100 * a2) / a1) + 1))], [.int ((((100 * a2) / a1) + 1) + ((((100 * a2) / a1) + 1) / 4))], M)) (by decide +kernel) rfl ⟨(by decide), trivial⟩ ?_
      exact WP.ret (.ireturn, 1, (0, 0), .null) (rk := 1) (by decide +kernel) (by decide +kernel) rfl trivial (hΦ _ h)
  · replace h := h.2 c1
    refine WP.blk [(.iconst 0, 1, (0, 0), .int 0)] (G := True) (c' := (5, [some (.int a1), some (.int a2), some (.int a3), none], [.int 0], M)) (by decide +kernel) rfl trivial ?_
    exact WP.ret (.ireturn, 1, (0, 0), .null) (rk := 1) (by decide +kernel) (by decide +kernel) rfl trivial (hΦ _ h)
/-- GearRoad$Bike.turnsOf(I)I -/
def S_Bike_turnsOf (k : Nat) (M : Mm) (a1 : Int32) (Φ : Int32 → Prop) : Prop := S_Bike_hasGear k M a1 (fun r1 => ((r1 = 0 → Φ 0) ∧ (¬ (r1 = 0) → vp_in (a1 / 6) 3 ∧ vp_in (irm a1 6) 6 ∧ vp_in (irm a1 6) 6 ∧ S_Bike_turnsBy M (M (k + 1) (Int32.toNatClampNeg (a1 / 6))) (M (k + 3) (Int32.toNatClampNeg (irm a1 6))) (M (k + 2) (Int32.toNatClampNeg (irm a1 6))) (fun r3 => Φ r3))))
set_option maxRecDepth 100000 in
set_option maxHeartbeats 4000000 in
theorem sp_Bike_turnsOf {d : Nat} {Post : Option Value → Mm → Prop} {k : Nat} {M : Mm} {a1 : Int32} {Φ : Int32 → Prop} (hk : k = 7 ∨ k = 13) (h : S_Bike_turnsOf k M a1 Φ) (hΦ : ∀ r, Φ r → Post (some (.int r)) M) : Ct (d + 4) 56 [.ref k, .int a1] M Post := by
  rcases hk with rfl | rfl
  · refine Ct.go (n := 2) (E := [some (.ref 7), some (.int a1)]) (by decide +kernel) (by simp [Value.category]) rfl ?_
    refine WP.blk [(.aload_n 0, 1, (0, 0), .null), (.iload_n 1, 1, (0, 0), .null)] (G := True) (c' := (2, [some (.ref 7), some (.int a1)], [.int a1, .ref 7], M)) (by decide +kernel) rfl trivial ?_
    refine WP.call (.invokevirtual 73, 3, (48, 2), .null) (by decide +kernel) rfl (sp_Bike_hasGear (d := d + 0) (by decide) h (fun r1 h => ?_))
    show WP (Ct (d + 3)) 56 Post (5, [some (.ref 7), some (.int a1)], [.int r1], M)
    refine WP.br (.ifCond .ne 5, 3, (10, 0), .null) (by decide +kernel) rfl (fun c2 => ?_) (fun c2 => ?_)
    · replace h := h.2 c2
      refine WP.blk [(.aload_n 0, 1, (0, 0), .null), (.getfield 40, 3, (1, 9), .null), (.iload_n 1, 1, (0, 0), .null), (.bipush 6, 2, (0, 0), .int 6), (.idiv, 1, (0, 0), .null), (.iaload, 1, (0, 0), .null), (.aload_n 0, 1, (0, 0), .null), (.getfield 47, 3, (1, 11), .null), (.iload_n 1, 1, (0, 0), .null), (.bipush 6, 2, (0, 0), .int 6), (.irem, 1, (0, 0), .null), (.iaload, 1, (0, 0), .null), (.aload_n 0, 1, (0, 0), .null), (.getfield 44, 3, (1, 10), .null), (.iload_n 1, 1, (0, 0), .null), (.bipush 6, 2, (0, 0), .int 6), (.irem, 1, (0, 0), .null), (.iaload, 1, (0, 0), .null)] (G := ¬ (6 : Int32) = 0 ∧ vp_in (a1 / 6) 3 ∧ ¬ (6 : Int32) = 0 ∧ vp_in (irm a1 6) 6 ∧ ¬ (6 : Int32) = 0 ∧ vp_in (irm a1 6) 6 ∧ True) (c' := (37, [some (.ref 7), some (.int a1)], [.int (M 9 (Int32.toNatClampNeg (irm a1 6))), .int (M 10 (Int32.toNatClampNeg (irm a1 6))), .int (M 8 (Int32.toNatClampNeg (a1 / 6)))], M)) (by decide +kernel) rfl ⟨(by decide), h.1, (by decide), h.2.1, (by decide), h.2.2.1, trivial⟩ ?_
      replace h := h.2.2.2
      refine WP.call (.invokestatic 80, 3, (57, 3), .null) (by decide +kernel) rfl (sp_Bike_turnsBy (d := d + 2) h (fun r3 h => ?_))
      show WP (Ct (d + 3)) 56 Post (40, [some (.ref 7), some (.int a1)], [.int r3], M)
      exact WP.ret (.ireturn, 1, (0, 0), .null) (rk := 1) (by decide +kernel) (by decide +kernel) rfl trivial (hΦ _ h)
    · replace h := h.1 (Classical.not_not.mp c2)
      refine WP.blk [(.iconst 0, 1, (0, 0), .int 0)] (G := True) (c' := (9, [some (.ref 7), some (.int a1)], [.int 0], M)) (by decide +kernel) rfl trivial ?_
      exact WP.ret (.ireturn, 1, (0, 0), .null) (rk := 1) (by decide +kernel) (by decide +kernel) rfl trivial (hΦ _ h)
  · refine Ct.go (n := 2) (E := [some (.ref 13), some (.int a1)]) (by decide +kernel) (by simp [Value.category]) rfl ?_
    refine WP.blk [(.aload_n 0, 1, (0, 0), .null), (.iload_n 1, 1, (0, 0), .null)] (G := True) (c' := (2, [some (.ref 13), some (.int a1)], [.int a1, .ref 13], M)) (by decide +kernel) rfl trivial ?_
    refine WP.call (.invokevirtual 73, 3, (48, 2), .null) (by decide +kernel) rfl (sp_Bike_hasGear (d := d + 0) (by decide) h (fun r1 h => ?_))
    show WP (Ct (d + 3)) 56 Post (5, [some (.ref 13), some (.int a1)], [.int r1], M)
    refine WP.br (.ifCond .ne 5, 3, (10, 0), .null) (by decide +kernel) rfl (fun c2 => ?_) (fun c2 => ?_)
    · replace h := h.2 c2
      refine WP.blk [(.aload_n 0, 1, (0, 0), .null), (.getfield 40, 3, (1, 9), .null), (.iload_n 1, 1, (0, 0), .null), (.bipush 6, 2, (0, 0), .int 6), (.idiv, 1, (0, 0), .null), (.iaload, 1, (0, 0), .null), (.aload_n 0, 1, (0, 0), .null), (.getfield 47, 3, (1, 11), .null), (.iload_n 1, 1, (0, 0), .null), (.bipush 6, 2, (0, 0), .int 6), (.irem, 1, (0, 0), .null), (.iaload, 1, (0, 0), .null), (.aload_n 0, 1, (0, 0), .null), (.getfield 44, 3, (1, 10), .null), (.iload_n 1, 1, (0, 0), .null), (.bipush 6, 2, (0, 0), .int 6), (.irem, 1, (0, 0), .null), (.iaload, 1, (0, 0), .null)] (G := ¬ (6 : Int32) = 0 ∧ vp_in (a1 / 6) 3 ∧ ¬ (6 : Int32) = 0 ∧ vp_in (irm a1 6) 6 ∧ ¬ (6 : Int32) = 0 ∧ vp_in (irm a1 6) 6 ∧ True) (c' := (37, [some (.ref 13), some (.int a1)], [.int (M 15 (Int32.toNatClampNeg (irm a1 6))), .int (M 16 (Int32.toNatClampNeg (irm a1 6))), .int (M 14 (Int32.toNatClampNeg (a1 / 6)))], M)) (by decide +kernel) rfl ⟨(by decide), h.1, (by decide), h.2.1, (by decide), h.2.2.1, trivial⟩ ?_
      replace h := h.2.2.2
      refine WP.call (.invokestatic 80, 3, (57, 3), .null) (by decide +kernel) rfl (sp_Bike_turnsBy (d := d + 2) h (fun r3 h => ?_))
      show WP (Ct (d + 3)) 56 Post (40, [some (.ref 13), some (.int a1)], [.int r3], M)
      exact WP.ret (.ireturn, 1, (0, 0), .null) (rk := 1) (by decide +kernel) (by decide +kernel) rfl trivial (hΦ _ h)
    · replace h := h.1 (Classical.not_not.mp c2)
      refine WP.blk [(.iconst 0, 1, (0, 0), .int 0)] (G := True) (c' := (9, [some (.ref 13), some (.int a1)], [.int 0], M)) (by decide +kernel) rfl trivial ?_
      exact WP.ret (.ireturn, 1, (0, 0), .null) (rk := 1) (by decide +kernel) (by decide +kernel) rfl trivial (hΦ _ h)
/-- java/lang/Math.min(II)I -/
def S_Math_min (M : Mm) (a1 : Int32) (a2 : Int32) (Φ : Int32 → Prop) : Prop := ((a2 < a1 → Φ a2) ∧ (¬ (a2 < a1) → Φ a1))
set_option maxRecDepth 100000 in
set_option maxHeartbeats 4000000 in
theorem sp_Math_min {d : Nat} {Post : Option Value → Mm → Prop} {M : Mm} {a1 : Int32} {a2 : Int32} {Φ : Int32 → Prop} (h : S_Math_min M a1 a2 Φ) (hΦ : ∀ r, Φ r → Post (some (.int r)) M) : Ct (d + 1) 54 [.int a1, .int a2] M Post := by
  refine Ct.go (n := 2) (E := [some (.int a1), some (.int a2)]) (by decide +kernel) (by simp [Value.category]) rfl ?_
  refine WP.blk [(.iload_n 0, 1, (0, 0), .null), (.iload_n 1, 1, (0, 0), .null)] (G := True) (c' := (2, [some (.int a1), some (.int a2)], [.int a2, .int a1], M)) (by decide +kernel) rfl trivial ?_
  refine WP.br (.if_icmp .gt 7, 3, (9, 0), .null) (by decide +kernel) rfl (fun c1 => ?_) (fun c1 => ?_)
  · replace h := h.1 c1
    refine WP.blk [(.iload_n 1, 1, (0, 0), .null)] (G := True) (c' := (10, [some (.int a1), some (.int a2)], [.int a2], M)) (by decide +kernel) rfl trivial ?_
    exact WP.ret (.ireturn, 1, (0, 0), .null) (rk := 1) (by decide +kernel) (by decide +kernel) rfl trivial (hΦ _ h)
  · replace h := h.2 c1
    refine WP.blk [(.iload_n 0, 1, (0, 0), .null), (.goto 4, 3, (10, 0), .null)] (G := True) (c' := (10, [some (.int a1), some (.int a2)], [.int a1], M)) (by decide +kernel) rfl trivial ?_
    exact WP.ret (.ireturn, 1, (0, 0), .null) (rk := 1) (by decide +kernel) (by decide +kernel) rfl trivial (hΦ _ h)
/-- GearRoad$Bike.turn(I)V -/
def S_Bike_turn (k : Nat) (M : Mm) (a1 : Int32) (Φ : Mm → Prop) : Prop := S_Math_min M 99999 ((M k 8) + a1) (fun r1 => Φ (mu M k 8 r1))
set_option maxRecDepth 100000 in
set_option maxHeartbeats 4000000 in
theorem sp_Bike_turn {d : Nat} {Post : Option Value → Mm → Prop} {k : Nat} {M : Mm} {a1 : Int32} {Φ : Mm → Prop} (hk : k = 7 ∨ k = 13) (h : S_Bike_turn k M a1 Φ) (hΦ : ∀ M1, Φ M1 → Post none M1) : Ct (d + 2) 58 [.ref k, .int a1] M Post := by
  rcases hk with rfl | rfl
  · refine Ct.go (n := 2) (E := [some (.ref 7), some (.int a1)]) (by decide +kernel) (by simp [Value.category]) rfl ?_
    refine WP.blk [(.aload_n 0, 1, (0, 0), .null), (.ldc 121, 2, (0, 0), .int (99999)), (.aload_n 0, 1, (0, 0), .null), (.getfield 37, 3, (1, 8), .null), (.iload_n 1, 1, (0, 0), .null), (.iadd, 1, (0, 0), .null)] (G := True) (c' := (9, [some (.ref 7), some (.int a1)], [.int ((M 7 8) + a1), .int 99999, .ref 7], M)) (by decide +kernel) rfl trivial ?_
    refine WP.call (.invokestatic 99, 3, (54, 2), .null) (by decide +kernel) rfl (sp_Math_min (d := d + 0) h (fun r1 h => ?_))
    show WP (Ct (d + 1)) 58 Post (12, [some (.ref 7), some (.int a1)], [.int r1, .ref 7], M)
    refine WP.blk [(.putfield 37, 3, (1, 8), .null)] (G := True) (c' := (15, [some (.ref 7), some (.int a1)], [], (mu M 7 8 r1))) (by decide +kernel) rfl trivial ?_
    exact WP.ret (.return_, 1, (0, 0), .null) (rk := 0) (by decide +kernel) (by decide +kernel) rfl trivial (hΦ _ h)
  · refine Ct.go (n := 2) (E := [some (.ref 13), some (.int a1)]) (by decide +kernel) (by simp [Value.category]) rfl ?_
    refine WP.blk [(.aload_n 0, 1, (0, 0), .null), (.ldc 121, 2, (0, 0), .int (99999)), (.aload_n 0, 1, (0, 0), .null), (.getfield 37, 3, (1, 8), .null), (.iload_n 1, 1, (0, 0), .null), (.iadd, 1, (0, 0), .null)] (G := True) (c' := (9, [some (.ref 13), some (.int a1)], [.int ((M 13 8) + a1), .int 99999, .ref 13], M)) (by decide +kernel) rfl trivial ?_
    refine WP.call (.invokestatic 99, 3, (54, 2), .null) (by decide +kernel) rfl (sp_Math_min (d := d + 0) h (fun r1 h => ?_))
    show WP (Ct (d + 1)) 58 Post (12, [some (.ref 13), some (.int a1)], [.int r1, .ref 13], M)
    refine WP.blk [(.putfield 37, 3, (1, 8), .null)] (G := True) (c' := (15, [some (.ref 13), some (.int a1)], [], (mu M 13 8 r1))) (by decide +kernel) rfl trivial ?_
    exact WP.ret (.return_, 1, (0, 0), .null) (rk := 0) (by decide +kernel) (by decide +kernel) rfl trivial (hΦ _ h)
/-- GearRoad$Bike.turnOnCog(I)V -/
def S_Bike_turnOnCog (k : Nat) (M : Mm) (a1 : Int32) (Φ : Mm → Prop) : Prop := vp_in (M k 6) 6 ∧ S_Math_min M 99999 ((M (k + 4) (Int32.toNatClampNeg (M k 6))) + a1) (fun r1 => vp_in (M k 6) 6 ∧ Φ (mu M (k + 4) (Int32.toNatClampNeg (M k 6)) r1))
set_option maxRecDepth 100000 in
set_option maxHeartbeats 4000000 in
theorem sp_Bike_turnOnCog {d : Nat} {Post : Option Value → Mm → Prop} {k : Nat} {M : Mm} {a1 : Int32} {Φ : Mm → Prop} (hk : k = 7 ∨ k = 13) (h : S_Bike_turnOnCog k M a1 Φ) (hΦ : ∀ M1, Φ M1 → Post none M1) : Ct (d + 2) 59 [.ref k, .int a1] M Post := by
  rcases hk with rfl | rfl
  · refine Ct.go (n := 2) (E := [some (.ref 7), some (.int a1)]) (by decide +kernel) (by simp [Value.category]) rfl ?_
    refine WP.blk [(.aload_n 0, 1, (0, 0), .null), (.getfield 50, 3, (1, 12), .null), (.aload_n 0, 1, (0, 0), .null), (.getfield 31, 3, (1, 6), .null), (.ldc 121, 2, (0, 0), .int (99999)), (.aload_n 0, 1, (0, 0), .null), (.getfield 50, 3, (1, 12), .null), (.aload_n 0, 1, (0, 0), .null), (.getfield 31, 3, (1, 6), .null), (.iaload, 1, (0, 0), .null), (.iload_n 1, 1, (0, 0), .null), (.iadd, 1, (0, 0), .null)] (G := vp_in (M 7 6) 6 ∧ True) (c' := (21, [some (.ref 7), some (.int a1)], [.int ((M 11 (Int32.toNatClampNeg (M 7 6))) + a1), .int 99999, .int (M 7 6), .ref 11], M)) (by decide +kernel) rfl ⟨h.1, trivial⟩ ?_
    replace h := h.2
    refine WP.call (.invokestatic 99, 3, (54, 2), .null) (by decide +kernel) rfl (sp_Math_min (d := d + 0) h (fun r1 h => ?_))
    show WP (Ct (d + 1)) 59 Post (24, [some (.ref 7), some (.int a1)], [.int r1, .int (M 7 6), .ref 11], M)
    refine WP.blk [(.iastore, 1, (0, 0), .null)] (G := vp_in (M 7 6) 6 ∧ True) (c' := (25, [some (.ref 7), some (.int a1)], [], (mu M 11 (Int32.toNatClampNeg (M 7 6)) r1))) (by decide +kernel) rfl ⟨h.1, trivial⟩ ?_
    replace h := h.2
    exact WP.ret (.return_, 1, (0, 0), .null) (rk := 0) (by decide +kernel) (by decide +kernel) rfl trivial (hΦ _ h)
  · refine Ct.go (n := 2) (E := [some (.ref 13), some (.int a1)]) (by decide +kernel) (by simp [Value.category]) rfl ?_
    refine WP.blk [(.aload_n 0, 1, (0, 0), .null), (.getfield 50, 3, (1, 12), .null), (.aload_n 0, 1, (0, 0), .null), (.getfield 31, 3, (1, 6), .null), (.ldc 121, 2, (0, 0), .int (99999)), (.aload_n 0, 1, (0, 0), .null), (.getfield 50, 3, (1, 12), .null), (.aload_n 0, 1, (0, 0), .null), (.getfield 31, 3, (1, 6), .null), (.iaload, 1, (0, 0), .null), (.iload_n 1, 1, (0, 0), .null), (.iadd, 1, (0, 0), .null)] (G := vp_in (M 13 6) 6 ∧ True) (c' := (21, [some (.ref 13), some (.int a1)], [.int ((M 17 (Int32.toNatClampNeg (M 13 6))) + a1), .int 99999, .int (M 13 6), .ref 17], M)) (by decide +kernel) rfl ⟨h.1, trivial⟩ ?_
    replace h := h.2
    refine WP.call (.invokestatic 99, 3, (54, 2), .null) (by decide +kernel) rfl (sp_Math_min (d := d + 0) h (fun r1 h => ?_))
    show WP (Ct (d + 1)) 59 Post (24, [some (.ref 13), some (.int a1)], [.int r1, .int (M 13 6), .ref 17], M)
    refine WP.blk [(.iastore, 1, (0, 0), .null)] (G := vp_in (M 13 6) 6 ∧ True) (c' := (25, [some (.ref 13), some (.int a1)], [], (mu M 17 (Int32.toNatClampNeg (M 13 6)) r1))) (by decide +kernel) rfl ⟨h.1, trivial⟩ ?_
    replace h := h.2
    exact WP.ret (.return_, 1, (0, 0), .null) (rk := 0) (by decide +kernel) (by decide +kernel) rfl trivial (hΦ _ h)
/-- GearRoad$Bike.rideOn()I -/
def S_Bike_rideOn (k : Nat) (M : Mm) (Φ : Int32 → Mm → Prop) : Prop := S_Bike_gear k M (fun r1 => S_Bike_turnsOf k M r1 (fun r2 => S_Bike_turn k M r2 (fun M3 => S_Bike_turnOnCog k M3 r2 (fun M4 => Φ r2 (mu M4 k 7 ((M4 k 7) + 1))))))
set_option maxRecDepth 100000 in
set_option maxHeartbeats 4000000 in
theorem sp_Bike_rideOn {d : Nat} {Post : Option Value → Mm → Prop} {k : Nat} {M : Mm} {Φ : Int32 → Mm → Prop} (hk : k = 7 ∨ k = 13) (h : S_Bike_rideOn k M Φ) (hΦ : ∀ r M1, Φ r M1 → Post (some (.int r)) M1) : Ct (d + 5) 55 [.ref k] M Post := by
  rcases hk with rfl | rfl
  · refine Ct.go (n := 2) (E := [some (.ref 7), none]) (by decide +kernel) (by simp [Value.category]) rfl ?_
    refine WP.blk [(.aload_n 0, 1, (0, 0), .null), (.aload_n 0, 1, (0, 0), .null)] (G := True) (c' := (2, [some (.ref 7), none], [.ref 7, .ref 7], M)) (by decide +kernel) rfl trivial ?_
    refine WP.call (.invokevirtual 95, 3, (46, 1), .null) (by decide +kernel) rfl (sp_Bike_gear (d := d + 3) (by decide) h (fun r1 h => ?_))
    show WP (Ct (d + 4)) 55 Post (5, [some (.ref 7), none], [.int r1, .ref 7], M)
    refine WP.call (.invokevirtual 104, 3, (56, 2), .null) (by decide +kernel) rfl (sp_Bike_turnsOf (d := d + 0) (by decide) h (fun r2 h => ?_))
    show WP (Ct (d + 4)) 55 Post (8, [some (.ref 7), none], [.int r2], M)
    refine WP.blk [(.istore_n 1, 1, (0, 0), .null), (.aload_n 0, 1, (0, 0), .null), (.iload_n 1, 1, (0, 0), .null)] (G := True) (c' := (11, [some (.ref 7), some (.int r2)], [.int r2, .ref 7], M)) (by decide +kernel) rfl trivial ?_
    refine WP.call (.invokevirtual 108, 3, (58, 2), .null) (by decide +kernel) rfl (sp_Bike_turn (d := d + 2) (by decide) h (fun M3 h => ?_))
    show WP (Ct (d + 4)) 55 Post (14, [some (.ref 7), some (.int r2)], [], M3)
    refine WP.blk [(.aload_n 0, 1, (0, 0), .null), (.iload_n 1, 1, (0, 0), .null)] (G := True) (c' := (16, [some (.ref 7), some (.int r2)], [.int r2, .ref 7], M3)) (by decide +kernel) rfl trivial ?_
    refine WP.call (.invokevirtual 112, 3, (59, 2), .null) (by decide +kernel) rfl (sp_Bike_turnOnCog (d := d + 2) (by decide) h (fun M4 h => ?_))
    show WP (Ct (d + 4)) 55 Post (19, [some (.ref 7), some (.int r2)], [], M4)
    refine WP.blk [(.aload_n 0, 1, (0, 0), .null), (.dup, 1, (0, 0), .null), (.getfield 34, 3, (1, 7), .null), (.iconst 1, 1, (0, 0), .int 1), (.iadd, 1, (0, 0), .null), (.putfield 34, 3, (1, 7), .null), (.iload_n 1, 1, (0, 0), .null)] (G := True) (c' := (30, [some (.ref 7), some (.int r2)], [.int r2], (mu M4 7 7 ((M4 7 7) + 1)))) (by decide +kernel) rfl trivial ?_
    exact WP.ret (.ireturn, 1, (0, 0), .null) (rk := 1) (by decide +kernel) (by decide +kernel) rfl trivial (hΦ _ _ h)
  · refine Ct.go (n := 2) (E := [some (.ref 13), none]) (by decide +kernel) (by simp [Value.category]) rfl ?_
    refine WP.blk [(.aload_n 0, 1, (0, 0), .null), (.aload_n 0, 1, (0, 0), .null)] (G := True) (c' := (2, [some (.ref 13), none], [.ref 13, .ref 13], M)) (by decide +kernel) rfl trivial ?_
    refine WP.call (.invokevirtual 95, 3, (46, 1), .null) (by decide +kernel) rfl (sp_Bike_gear (d := d + 3) (by decide) h (fun r1 h => ?_))
    show WP (Ct (d + 4)) 55 Post (5, [some (.ref 13), none], [.int r1, .ref 13], M)
    refine WP.call (.invokevirtual 104, 3, (56, 2), .null) (by decide +kernel) rfl (sp_Bike_turnsOf (d := d + 0) (by decide) h (fun r2 h => ?_))
    show WP (Ct (d + 4)) 55 Post (8, [some (.ref 13), none], [.int r2], M)
    refine WP.blk [(.istore_n 1, 1, (0, 0), .null), (.aload_n 0, 1, (0, 0), .null), (.iload_n 1, 1, (0, 0), .null)] (G := True) (c' := (11, [some (.ref 13), some (.int r2)], [.int r2, .ref 13], M)) (by decide +kernel) rfl trivial ?_
    refine WP.call (.invokevirtual 108, 3, (58, 2), .null) (by decide +kernel) rfl (sp_Bike_turn (d := d + 2) (by decide) h (fun M3 h => ?_))
    show WP (Ct (d + 4)) 55 Post (14, [some (.ref 13), some (.int r2)], [], M3)
    refine WP.blk [(.aload_n 0, 1, (0, 0), .null), (.iload_n 1, 1, (0, 0), .null)] (G := True) (c' := (16, [some (.ref 13), some (.int r2)], [.int r2, .ref 13], M3)) (by decide +kernel) rfl trivial ?_
    refine WP.call (.invokevirtual 112, 3, (59, 2), .null) (by decide +kernel) rfl (sp_Bike_turnOnCog (d := d + 2) (by decide) h (fun M4 h => ?_))
    show WP (Ct (d + 4)) 55 Post (19, [some (.ref 13), some (.int r2)], [], M4)
    refine WP.blk [(.aload_n 0, 1, (0, 0), .null), (.dup, 1, (0, 0), .null), (.getfield 34, 3, (1, 7), .null), (.iconst 1, 1, (0, 0), .int 1), (.iadd, 1, (0, 0), .null), (.putfield 34, 3, (1, 7), .null), (.iload_n 1, 1, (0, 0), .null)] (G := True) (c' := (30, [some (.ref 13), some (.int r2)], [.int r2], (mu M4 13 7 ((M4 13 7) + 1)))) (by decide +kernel) rfl trivial ?_
    exact WP.ret (.ireturn, 1, (0, 0), .null) (rk := 1) (by decide +kernel) (by decide +kernel) rfl trivial (hΦ _ _ h)
/-- GearRoad$Bike.mayLeave(II)Z -/
def D_Bike_mayLeave_16 (k : Nat) (M : Mm) (Φ : Int32 → Prop) : Unit → Prop
  | () => Φ 1
def S_Bike_mayLeave (k : Nat) (M : Mm) (a1 : Int32) (a2 : Int32) (Φ : Int32 → Prop) : Prop := vp_in a1 6 ∧ (((M (k + 2) (Int32.toNatClampNeg a1)) = 5 → (((irm a2 2) = 0 → D_Bike_mayLeave_16 k M Φ ()) ∧ (¬ ((irm a2 2) = 0) → Φ 0))) ∧ (¬ ((M (k + 2) (Int32.toNatClampNeg a1)) = 5) → D_Bike_mayLeave_16 k M Φ ()))
set_option maxRecDepth 100000 in
set_option maxHeartbeats 4000000 in
theorem L_Bike_mayLeave_16 {d : Nat} {Post : Option Value → Mm → Prop} {k : Nat} {M : Mm} {Φ : Int32 → Prop} (hk : k = 7 ∨ k = 13) (hΦ : ∀ r, Φ r → Post (some (.int r)) M) : D_Bike_mayLeave_16 k M Φ () → WP (Ct (d + 0)) 62 Post (16, [none, none, none], [], M) := by
  rcases hk with rfl | rfl
  · intro h
    refine WP.blk [(.iconst 1, 1, (0, 0), .int 1), (.goto 4, 3, (21, 0), .null)] (G := True) (c' := (21, [none, none, none], [.int 1], M)) (by decide +kernel) rfl trivial ?_
    exact WP.ret (.ireturn, 1, (0, 0), .null) (rk := 2) (by decide +kernel) (by decide +kernel) rfl (by decide) (hΦ _ h)
  · intro h
    refine WP.blk [(.iconst 1, 1, (0, 0), .int 1), (.goto 4, 3, (21, 0), .null)] (G := True) (c' := (21, [none, none, none], [.int 1], M)) (by decide +kernel) rfl trivial ?_
    exact WP.ret (.ireturn, 1, (0, 0), .null) (rk := 2) (by decide +kernel) (by decide +kernel) rfl (by decide) (hΦ _ h)
set_option maxRecDepth 100000 in
set_option maxHeartbeats 4000000 in
theorem sp_Bike_mayLeave {d : Nat} {Post : Option Value → Mm → Prop} {k : Nat} {M : Mm} {a1 : Int32} {a2 : Int32} {Φ : Int32 → Prop} (hk : k = 7 ∨ k = 13) (h : S_Bike_mayLeave k M a1 a2 Φ) (hΦ : ∀ r, Φ r → Post (some (.int r)) M) : Ct (d + 1) 62 [.ref k, .int a1, .int a2] M Post := by
  rcases hk with rfl | rfl
  · refine Ct.go (n := 3) (E := [some (.ref 7), some (.int a1), some (.int a2)]) (by decide +kernel) (by simp [Value.category]) rfl ?_
    refine WP.blk [(.aload_n 0, 1, (0, 0), .null), (.getfield 44, 3, (1, 10), .null), (.iload_n 1, 1, (0, 0), .null), (.iaload, 1, (0, 0), .null), (.iconst 5, 1, (0, 0), .int 5)] (G := vp_in a1 6 ∧ True) (c' := (7, [some (.ref 7), some (.int a1), some (.int a2)], [.int 5, .int (M 9 (Int32.toNatClampNeg a1))], M)) (by decide +kernel) rfl ⟨h.1, trivial⟩ ?_
    replace h := h.2
    refine WP.br (.if_icmp .ne 9, 3, (16, 0), .null) (by decide +kernel) rfl (fun c1 => ?_) (fun c1 => ?_)
    · replace h := h.2 c1
      refine WP.fgt [none, none, none] (by simp [fgt]) ?_
      exact L_Bike_mayLeave_16 (by decide) hΦ h
    · replace h := h.1 (Classical.not_not.mp c1)
      refine WP.blk [(.iload_n 2, 1, (0, 0), .null), (.iconst 2, 1, (0, 0), .int 2), (.irem, 1, (0, 0), .null)] (G := ¬ (2 : Int32) = 0 ∧ True) (c' := (13, [some (.ref 7), some (.int a1), some (.int a2)], [.int (irm a2 2)], M)) (by decide +kernel) rfl ⟨(by decide), trivial⟩ ?_
      refine WP.br (.ifCond .ne 7, 3, (20, 0), .null) (by decide +kernel) rfl (fun c2 => ?_) (fun c2 => ?_)
      · replace h := h.2 c2
        refine WP.blk [(.iconst 0, 1, (0, 0), .int 0)] (G := True) (c' := (21, [some (.ref 7), some (.int a1), some (.int a2)], [.int 0], M)) (by decide +kernel) rfl trivial ?_
        exact WP.ret (.ireturn, 1, (0, 0), .null) (rk := 2) (by decide +kernel) (by decide +kernel) rfl (by decide) (hΦ _ h)
      · replace h := h.1 (Classical.not_not.mp c2)
        refine WP.fgt [none, none, none] (by simp [fgt]) ?_
        exact L_Bike_mayLeave_16 (by decide) hΦ h
  · refine Ct.go (n := 3) (E := [some (.ref 13), some (.int a1), some (.int a2)]) (by decide +kernel) (by simp [Value.category]) rfl ?_
    refine WP.blk [(.aload_n 0, 1, (0, 0), .null), (.getfield 44, 3, (1, 10), .null), (.iload_n 1, 1, (0, 0), .null), (.iaload, 1, (0, 0), .null), (.iconst 5, 1, (0, 0), .int 5)] (G := vp_in a1 6 ∧ True) (c' := (7, [some (.ref 13), some (.int a1), some (.int a2)], [.int 5, .int (M 15 (Int32.toNatClampNeg a1))], M)) (by decide +kernel) rfl ⟨h.1, trivial⟩ ?_
    replace h := h.2
    refine WP.br (.if_icmp .ne 9, 3, (16, 0), .null) (by decide +kernel) rfl (fun c1 => ?_) (fun c1 => ?_)
    · replace h := h.2 c1
      refine WP.fgt [none, none, none] (by simp [fgt]) ?_
      exact L_Bike_mayLeave_16 (by decide) hΦ h
    · replace h := h.1 (Classical.not_not.mp c1)
      refine WP.blk [(.iload_n 2, 1, (0, 0), .null), (.iconst 2, 1, (0, 0), .int 2), (.irem, 1, (0, 0), .null)] (G := ¬ (2 : Int32) = 0 ∧ True) (c' := (13, [some (.ref 13), some (.int a1), some (.int a2)], [.int (irm a2 2)], M)) (by decide +kernel) rfl ⟨(by decide), trivial⟩ ?_
      refine WP.br (.ifCond .ne 7, 3, (20, 0), .null) (by decide +kernel) rfl (fun c2 => ?_) (fun c2 => ?_)
      · replace h := h.2 c2
        refine WP.blk [(.iconst 0, 1, (0, 0), .int 0)] (G := True) (c' := (21, [some (.ref 13), some (.int a1), some (.int a2)], [.int 0], M)) (by decide +kernel) rfl trivial ?_
        exact WP.ret (.ireturn, 1, (0, 0), .null) (rk := 2) (by decide +kernel) (by decide +kernel) rfl (by decide) (hΦ _ h)
      · replace h := h.1 (Classical.not_not.mp c2)
        refine WP.fgt [none, none, none] (by simp [fgt]) ?_
        exact L_Bike_mayLeave_16 (by decide) hΦ h
/-- GearRoad$Bike.canShift(I)Z -/
def S_Bike_canShift (k : Nat) (M : Mm) (a1 : Int32) (Φ : Int32 → Prop) : Prop := S_Bike_hasCog k M ((M k 6) + a1) (fun r1 => ((r1 = 0 → Φ 0) ∧ (¬ (r1 = 0) → S_Bike_mayLeave k M (M k 6) (M k 7) (fun r3 => ((r3 = 0 → Φ 0) ∧ (¬ (r3 = 0) → Φ 1))))))
set_option maxRecDepth 100000 in
set_option maxHeartbeats 4000000 in
theorem sp_Bike_canShift {d : Nat} {Post : Option Value → Mm → Prop} {k : Nat} {M : Mm} {a1 : Int32} {Φ : Int32 → Prop} (hk : k = 7 ∨ k = 13) (h : S_Bike_canShift k M a1 Φ) (hΦ : ∀ r, Φ r → Post (some (.int r)) M) : Ct (d + 3) 61 [.ref k, .int a1] M Post := by
  rcases hk with rfl | rfl
  · refine Ct.go (n := 2) (E := [some (.ref 7), some (.int a1)]) (by decide +kernel) (by simp [Value.category]) rfl ?_
    refine WP.blk [(.aload_n 0, 1, (0, 0), .null), (.aload_n 0, 1, (0, 0), .null), (.getfield 31, 3, (1, 6), .null), (.iload_n 1, 1, (0, 0), .null), (.iadd, 1, (0, 0), .null)] (G := True) (c' := (7, [some (.ref 7), some (.int a1)], [.int ((M 7 6) + a1), .ref 7], M)) (by decide +kernel) rfl trivial ?_
    refine WP.call (.invokevirtual 70, 3, (50, 2), .null) (by decide +kernel) rfl (sp_Bike_hasCog (d := d + 0) (by decide) h (fun r1 h => ?_))
    show WP (Ct (d + 2)) 61 Post (10, [some (.ref 7), some (.int a1)], [.int r1], M)
    refine WP.br (.ifCond .eq 22, 3, (32, 0), .null) (by decide +kernel) rfl (fun c2 => ?_) (fun c2 => ?_)
    · replace h := h.1 c2
      refine WP.blk [(.iconst 0, 1, (0, 0), .int 0)] (G := True) (c' := (33, [some (.ref 7), some (.int a1)], [.int 0], M)) (by decide +kernel) rfl trivial ?_
      exact WP.ret (.ireturn, 1, (0, 0), .null) (rk := 2) (by decide +kernel) (by decide +kernel) rfl (by decide) (hΦ _ h)
    · replace h := h.2 c2
      refine WP.blk [(.aload_n 0, 1, (0, 0), .null), (.aload_n 0, 1, (0, 0), .null), (.getfield 31, 3, (1, 6), .null), (.aload_n 0, 1, (0, 0), .null), (.getfield 34, 3, (1, 7), .null)] (G := True) (c' := (22, [some (.ref 7), some (.int a1)], [.int (M 7 7), .int (M 7 6), .ref 7], M)) (by decide +kernel) rfl trivial ?_
      refine WP.call (.invokevirtual 115, 3, (62, 3), .null) (by decide +kernel) rfl (sp_Bike_mayLeave (d := d + 1) (by decide) h (fun r3 h => ?_))
      show WP (Ct (d + 2)) 61 Post (25, [some (.ref 7), some (.int a1)], [.int r3], M)
      refine WP.br (.ifCond .eq 7, 3, (32, 0), .null) (by decide +kernel) rfl (fun c4 => ?_) (fun c4 => ?_)
      · replace h := h.1 c4
        refine WP.blk [(.iconst 0, 1, (0, 0), .int 0)] (G := True) (c' := (33, [some (.ref 7), some (.int a1)], [.int 0], M)) (by decide +kernel) rfl trivial ?_
        exact WP.ret (.ireturn, 1, (0, 0), .null) (rk := 2) (by decide +kernel) (by decide +kernel) rfl (by decide) (hΦ _ h)
      · replace h := h.2 c4
        refine WP.blk [(.iconst 1, 1, (0, 0), .int 1), (.goto 4, 3, (33, 0), .null)] (G := True) (c' := (33, [some (.ref 7), some (.int a1)], [.int 1], M)) (by decide +kernel) rfl trivial ?_
        exact WP.ret (.ireturn, 1, (0, 0), .null) (rk := 2) (by decide +kernel) (by decide +kernel) rfl (by decide) (hΦ _ h)
  · refine Ct.go (n := 2) (E := [some (.ref 13), some (.int a1)]) (by decide +kernel) (by simp [Value.category]) rfl ?_
    refine WP.blk [(.aload_n 0, 1, (0, 0), .null), (.aload_n 0, 1, (0, 0), .null), (.getfield 31, 3, (1, 6), .null), (.iload_n 1, 1, (0, 0), .null), (.iadd, 1, (0, 0), .null)] (G := True) (c' := (7, [some (.ref 13), some (.int a1)], [.int ((M 13 6) + a1), .ref 13], M)) (by decide +kernel) rfl trivial ?_
    refine WP.call (.invokevirtual 70, 3, (50, 2), .null) (by decide +kernel) rfl (sp_Bike_hasCog (d := d + 0) (by decide) h (fun r1 h => ?_))
    show WP (Ct (d + 2)) 61 Post (10, [some (.ref 13), some (.int a1)], [.int r1], M)
    refine WP.br (.ifCond .eq 22, 3, (32, 0), .null) (by decide +kernel) rfl (fun c2 => ?_) (fun c2 => ?_)
    · replace h := h.1 c2
      refine WP.blk [(.iconst 0, 1, (0, 0), .int 0)] (G := True) (c' := (33, [some (.ref 13), some (.int a1)], [.int 0], M)) (by decide +kernel) rfl trivial ?_
      exact WP.ret (.ireturn, 1, (0, 0), .null) (rk := 2) (by decide +kernel) (by decide +kernel) rfl (by decide) (hΦ _ h)
    · replace h := h.2 c2
      refine WP.blk [(.aload_n 0, 1, (0, 0), .null), (.aload_n 0, 1, (0, 0), .null), (.getfield 31, 3, (1, 6), .null), (.aload_n 0, 1, (0, 0), .null), (.getfield 34, 3, (1, 7), .null)] (G := True) (c' := (22, [some (.ref 13), some (.int a1)], [.int (M 13 7), .int (M 13 6), .ref 13], M)) (by decide +kernel) rfl trivial ?_
      refine WP.call (.invokevirtual 115, 3, (62, 3), .null) (by decide +kernel) rfl (sp_Bike_mayLeave (d := d + 1) (by decide) h (fun r3 h => ?_))
      show WP (Ct (d + 2)) 61 Post (25, [some (.ref 13), some (.int a1)], [.int r3], M)
      refine WP.br (.ifCond .eq 7, 3, (32, 0), .null) (by decide +kernel) rfl (fun c4 => ?_) (fun c4 => ?_)
      · replace h := h.1 c4
        refine WP.blk [(.iconst 0, 1, (0, 0), .int 0)] (G := True) (c' := (33, [some (.ref 13), some (.int a1)], [.int 0], M)) (by decide +kernel) rfl trivial ?_
        exact WP.ret (.ireturn, 1, (0, 0), .null) (rk := 2) (by decide +kernel) (by decide +kernel) rfl (by decide) (hΦ _ h)
      · replace h := h.2 c4
        refine WP.blk [(.iconst 1, 1, (0, 0), .int 1), (.goto 4, 3, (33, 0), .null)] (G := True) (c' := (33, [some (.ref 13), some (.int a1)], [.int 1], M)) (by decide +kernel) rfl trivial ?_
        exact WP.ret (.ireturn, 1, (0, 0), .null) (rk := 2) (by decide +kernel) (by decide +kernel) rfl (by decide) (hΦ _ h)
/-- GearRoad$Bike.turnsOnto(I)I -/
def S_Bike_turnsOnto (k : Nat) (M : Mm) (a1 : Int32) (Φ : Int32 → Prop) : Prop := vp_in a1 6 ∧ (((M (k + 2) (Int32.toNatClampNeg a1)) = 3 → Φ 1) ∧ (¬ ((M (k + 2) (Int32.toNatClampNeg a1)) = 3) → Φ 3))
set_option maxRecDepth 100000 in
set_option maxHeartbeats 4000000 in
theorem sp_Bike_turnsOnto {d : Nat} {Post : Option Value → Mm → Prop} {k : Nat} {M : Mm} {a1 : Int32} {Φ : Int32 → Prop} (hk : k = 7 ∨ k = 13) (h : S_Bike_turnsOnto k M a1 Φ) (hΦ : ∀ r, Φ r → Post (some (.int r)) M) : Ct (d + 1) 64 [.ref k, .int a1] M Post := by
  rcases hk with rfl | rfl
  · refine Ct.go (n := 2) (E := [some (.ref 7), some (.int a1)]) (by decide +kernel) (by simp [Value.category]) rfl ?_
    refine WP.blk [(.aload_n 0, 1, (0, 0), .null), (.getfield 44, 3, (1, 10), .null), (.iload_n 1, 1, (0, 0), .null), (.iaload, 1, (0, 0), .null), (.iconst 3, 1, (0, 0), .int 3)] (G := vp_in a1 6 ∧ True) (c' := (7, [some (.ref 7), some (.int a1)], [.int 3, .int (M 9 (Int32.toNatClampNeg a1))], M)) (by decide +kernel) rfl ⟨h.1, trivial⟩ ?_
    replace h := h.2
    refine WP.br (.if_icmp .ne 7, 3, (14, 0), .null) (by decide +kernel) rfl (fun c1 => ?_) (fun c1 => ?_)
    · replace h := h.2 c1
      refine WP.blk [(.iconst 3, 1, (0, 0), .int 3)] (G := True) (c' := (15, [some (.ref 7), some (.int a1)], [.int 3], M)) (by decide +kernel) rfl trivial ?_
      exact WP.ret (.ireturn, 1, (0, 0), .null) (rk := 1) (by decide +kernel) (by decide +kernel) rfl trivial (hΦ _ h)
    · replace h := h.1 (Classical.not_not.mp c1)
      refine WP.blk [(.iconst 1, 1, (0, 0), .int 1), (.goto 4, 3, (15, 0), .null)] (G := True) (c' := (15, [some (.ref 7), some (.int a1)], [.int 1], M)) (by decide +kernel) rfl trivial ?_
      exact WP.ret (.ireturn, 1, (0, 0), .null) (rk := 1) (by decide +kernel) (by decide +kernel) rfl trivial (hΦ _ h)
  · refine Ct.go (n := 2) (E := [some (.ref 13), some (.int a1)]) (by decide +kernel) (by simp [Value.category]) rfl ?_
    refine WP.blk [(.aload_n 0, 1, (0, 0), .null), (.getfield 44, 3, (1, 10), .null), (.iload_n 1, 1, (0, 0), .null), (.iaload, 1, (0, 0), .null), (.iconst 3, 1, (0, 0), .int 3)] (G := vp_in a1 6 ∧ True) (c' := (7, [some (.ref 13), some (.int a1)], [.int 3, .int (M 15 (Int32.toNatClampNeg a1))], M)) (by decide +kernel) rfl ⟨h.1, trivial⟩ ?_
    replace h := h.2
    refine WP.br (.if_icmp .ne 7, 3, (14, 0), .null) (by decide +kernel) rfl (fun c1 => ?_) (fun c1 => ?_)
    · replace h := h.2 c1
      refine WP.blk [(.iconst 3, 1, (0, 0), .int 3)] (G := True) (c' := (15, [some (.ref 13), some (.int a1)], [.int 3], M)) (by decide +kernel) rfl trivial ?_
      exact WP.ret (.ireturn, 1, (0, 0), .null) (rk := 1) (by decide +kernel) (by decide +kernel) rfl trivial (hΦ _ h)
    · replace h := h.1 (Classical.not_not.mp c1)
      refine WP.blk [(.iconst 1, 1, (0, 0), .int 1), (.goto 4, 3, (15, 0), .null)] (G := True) (c' := (15, [some (.ref 13), some (.int a1)], [.int 1], M)) (by decide +kernel) rfl trivial ?_
      exact WP.ret (.ireturn, 1, (0, 0), .null) (rk := 1) (by decide +kernel) (by decide +kernel) rfl trivial (hΦ _ h)
/-- GearRoad$Bike.shiftCog(I)V -/
def S_Bike_shiftCog (k : Nat) (M : Mm) (a1 : Int32) (Φ : Mm → Prop) : Prop := S_Bike_turnsOnto k (mu M k 6 ((M k 6) + a1)) ((mu M k 6 ((M k 6) + a1)) k 6) (fun r1 => S_Bike_turn k (mu M k 6 ((M k 6) + a1)) r1 (fun M2 => S_Bike_turnsOnto k M2 (M2 k 6) (fun r3 => S_Bike_turnOnCog k M2 r3 (fun M4 => Φ M4))))
set_option maxRecDepth 100000 in
set_option maxHeartbeats 4000000 in
theorem sp_Bike_shiftCog {d : Nat} {Post : Option Value → Mm → Prop} {k : Nat} {M : Mm} {a1 : Int32} {Φ : Mm → Prop} (hk : k = 7 ∨ k = 13) (h : S_Bike_shiftCog k M a1 Φ) (hΦ : ∀ M1, Φ M1 → Post none M1) : Ct (d + 3) 63 [.ref k, .int a1] M Post := by
  rcases hk with rfl | rfl
  · refine Ct.go (n := 2) (E := [some (.ref 7), some (.int a1)]) (by decide +kernel) (by simp [Value.category]) rfl ?_
    refine WP.blk [(.aload_n 0, 1, (0, 0), .null), (.dup, 1, (0, 0), .null), (.getfield 31, 3, (1, 6), .null), (.iload_n 1, 1, (0, 0), .null), (.iadd, 1, (0, 0), .null), (.putfield 31, 3, (1, 6), .null), (.aload_n 0, 1, (0, 0), .null), (.aload_n 0, 1, (0, 0), .null), (.aload_n 0, 1, (0, 0), .null), (.getfield 31, 3, (1, 6), .null)] (G := True) (c' := (16, [some (.ref 7), some (.int a1)], [.int ((mu M 7 6 ((M 7 6) + a1)) 7 6), .ref 7, .ref 7], (mu M 7 6 ((M 7 6) + a1)))) (by decide +kernel) rfl trivial ?_
    refine WP.call (.invokevirtual 118, 3, (64, 2), .null) (by decide +kernel) rfl (sp_Bike_turnsOnto (d := d + 1) (by decide) h (fun r1 h => ?_))
    show WP (Ct (d + 2)) 63 Post (19, [some (.ref 7), some (.int a1)], [.int r1, .ref 7], (mu M 7 6 ((M 7 6) + a1)))
    refine WP.call (.invokevirtual 108, 3, (58, 2), .null) (by decide +kernel) rfl (sp_Bike_turn (d := d + 0) (by decide) h (fun M2 h => ?_))
    show WP (Ct (d + 2)) 63 Post (22, [some (.ref 7), some (.int a1)], [], M2)
    refine WP.blk [(.aload_n 0, 1, (0, 0), .null), (.aload_n 0, 1, (0, 0), .null), (.aload_n 0, 1, (0, 0), .null), (.getfield 31, 3, (1, 6), .null)] (G := True) (c' := (28, [some (.ref 7), some (.int a1)], [.int (M2 7 6), .ref 7, .ref 7], M2)) (by decide +kernel) rfl trivial ?_
    refine WP.call (.invokevirtual 118, 3, (64, 2), .null) (by decide +kernel) rfl (sp_Bike_turnsOnto (d := d + 1) (by decide) h (fun r3 h => ?_))
    show WP (Ct (d + 2)) 63 Post (31, [some (.ref 7), some (.int a1)], [.int r3, .ref 7], M2)
    refine WP.call (.invokevirtual 112, 3, (59, 2), .null) (by decide +kernel) rfl (sp_Bike_turnOnCog (d := d + 0) (by decide) h (fun M4 h => ?_))
    show WP (Ct (d + 2)) 63 Post (34, [some (.ref 7), some (.int a1)], [], M4)
    exact WP.ret (.return_, 1, (0, 0), .null) (rk := 0) (by decide +kernel) (by decide +kernel) rfl trivial (hΦ _ h)
  · refine Ct.go (n := 2) (E := [some (.ref 13), some (.int a1)]) (by decide +kernel) (by simp [Value.category]) rfl ?_
    refine WP.blk [(.aload_n 0, 1, (0, 0), .null), (.dup, 1, (0, 0), .null), (.getfield 31, 3, (1, 6), .null), (.iload_n 1, 1, (0, 0), .null), (.iadd, 1, (0, 0), .null), (.putfield 31, 3, (1, 6), .null), (.aload_n 0, 1, (0, 0), .null), (.aload_n 0, 1, (0, 0), .null), (.aload_n 0, 1, (0, 0), .null), (.getfield 31, 3, (1, 6), .null)] (G := True) (c' := (16, [some (.ref 13), some (.int a1)], [.int ((mu M 13 6 ((M 13 6) + a1)) 13 6), .ref 13, .ref 13], (mu M 13 6 ((M 13 6) + a1)))) (by decide +kernel) rfl trivial ?_
    refine WP.call (.invokevirtual 118, 3, (64, 2), .null) (by decide +kernel) rfl (sp_Bike_turnsOnto (d := d + 1) (by decide) h (fun r1 h => ?_))
    show WP (Ct (d + 2)) 63 Post (19, [some (.ref 13), some (.int a1)], [.int r1, .ref 13], (mu M 13 6 ((M 13 6) + a1)))
    refine WP.call (.invokevirtual 108, 3, (58, 2), .null) (by decide +kernel) rfl (sp_Bike_turn (d := d + 0) (by decide) h (fun M2 h => ?_))
    show WP (Ct (d + 2)) 63 Post (22, [some (.ref 13), some (.int a1)], [], M2)
    refine WP.blk [(.aload_n 0, 1, (0, 0), .null), (.aload_n 0, 1, (0, 0), .null), (.aload_n 0, 1, (0, 0), .null), (.getfield 31, 3, (1, 6), .null)] (G := True) (c' := (28, [some (.ref 13), some (.int a1)], [.int (M2 13 6), .ref 13, .ref 13], M2)) (by decide +kernel) rfl trivial ?_
    refine WP.call (.invokevirtual 118, 3, (64, 2), .null) (by decide +kernel) rfl (sp_Bike_turnsOnto (d := d + 1) (by decide) h (fun r3 h => ?_))
    show WP (Ct (d + 2)) 63 Post (31, [some (.ref 13), some (.int a1)], [.int r3, .ref 13], M2)
    refine WP.call (.invokevirtual 112, 3, (59, 2), .null) (by decide +kernel) rfl (sp_Bike_turnOnCog (d := d + 0) (by decide) h (fun M4 h => ?_))
    show WP (Ct (d + 2)) 63 Post (34, [some (.ref 13), some (.int a1)], [], M4)
    exact WP.ret (.return_, 1, (0, 0), .null) (rk := 0) (by decide +kernel) (by decide +kernel) rfl trivial (hΦ _ h)
/-- GearRoad$Bike.shiftRing(I)V -/
def S_Bike_shiftRing (k : Nat) (M : Mm) (a1 : Int32) (Φ : Mm → Prop) : Prop := S_Bike_turn k (mu M k 5 a1) 5 (fun M1 => Φ M1)
set_option maxRecDepth 100000 in
set_option maxHeartbeats 4000000 in
theorem sp_Bike_shiftRing {d : Nat} {Post : Option Value → Mm → Prop} {k : Nat} {M : Mm} {a1 : Int32} {Φ : Mm → Prop} (hk : k = 7 ∨ k = 13) (h : S_Bike_shiftRing k M a1 Φ) (hΦ : ∀ M1, Φ M1 → Post none M1) : Ct (d + 3) 66 [.ref k, .int a1] M Post := by
  rcases hk with rfl | rfl
  · refine Ct.go (n := 2) (E := [some (.ref 7), some (.int a1)]) (by decide +kernel) (by simp [Value.category]) rfl ?_
    refine WP.blk [(.aload_n 0, 1, (0, 0), .null), (.iload_n 1, 1, (0, 0), .null), (.putfield 28, 3, (1, 5), .null), (.aload_n 0, 1, (0, 0), .null), (.iconst 5, 1, (0, 0), .int 5)] (G := True) (c' := (7, [some (.ref 7), some (.int a1)], [.int 5, .ref 7], (mu M 7 5 a1))) (by decide +kernel) rfl trivial ?_
    refine WP.call (.invokevirtual 108, 3, (58, 2), .null) (by decide +kernel) rfl (sp_Bike_turn (d := d + 0) (by decide) h (fun M1 h => ?_))
    show WP (Ct (d + 2)) 66 Post (10, [some (.ref 7), some (.int a1)], [], M1)
    exact WP.ret (.return_, 1, (0, 0), .null) (rk := 0) (by decide +kernel) (by decide +kernel) rfl trivial (hΦ _ h)
  · refine Ct.go (n := 2) (E := [some (.ref 13), some (.int a1)]) (by decide +kernel) (by simp [Value.category]) rfl ?_
    refine WP.blk [(.aload_n 0, 1, (0, 0), .null), (.iload_n 1, 1, (0, 0), .null), (.putfield 28, 3, (1, 5), .null), (.aload_n 0, 1, (0, 0), .null), (.iconst 5, 1, (0, 0), .int 5)] (G := True) (c' := (7, [some (.ref 13), some (.int a1)], [.int 5, .ref 13], (mu M 13 5 a1))) (by decide +kernel) rfl trivial ?_
    refine WP.call (.invokevirtual 108, 3, (58, 2), .null) (by decide +kernel) rfl (sp_Bike_turn (d := d + 0) (by decide) h (fun M1 h => ?_))
    show WP (Ct (d + 2)) 66 Post (10, [some (.ref 13), some (.int a1)], [], M1)
    exact WP.ret (.return_, 1, (0, 0), .null) (rk := 0) (by decide +kernel) (by decide +kernel) rfl trivial (hΦ _ h)
/-- GearRoad$Bike.turnAbout()V -/
def D_Bike_turnAbout_9 (k : Nat) (Φ : Mm → Prop) (rec_9 : Int32 × Int32 × Mm → Prop) : Int32 × Int32 × Mm → Prop
  | (x1, x2, M) => ((x2 < x1 → Φ (mu M k 7 ((M k 3) - (M k 7)))) ∧ (¬ (x2 < x1) → vp_in x1 6 ∧ vp_in x2 6 ∧ vp_in x1 6 ∧ vp_in x2 6 ∧ rec_9 ((x1 + 1), (x2 + (-1)), (mu (mu M (k + 5) (Int32.toNatClampNeg x1) (9 - (M (k + 5) (Int32.toNatClampNeg x2)))) (k + 5) (Int32.toNatClampNeg x2) (9 - (M (k + 5) (Int32.toNatClampNeg x1)))))))
def S_Bike_turnAbout (k : Nat) (M : Mm) (Φ : Mm → Prop) : Prop := ∃ n, lp (D_Bike_turnAbout_9 k Φ) n (0, ((M k 3) - 1), M)
set_option maxRecDepth 100000 in
set_option maxHeartbeats 4000000 in
theorem L_Bike_turnAbout_9 {d : Nat} {Post : Option Value → Mm → Prop} {k : Nat} {rec_9 : Int32 × Int32 × Mm → Prop} {Φ : Mm → Prop} (hk : k = 7 ∨ k = 13) (hΦ : ∀ M1, Φ M1 → Post none M1) (hrec_9 : ∀ (x1 : Int32) (x2 : Int32) (M : Mm), rec_9 (x1, x2, M) → WP (Ct (d + 0)) 68 Post (9, [some (.ref k), some (.int x1), some (.int x2), none], [], M)) : ∀ (x1 : Int32) (x2 : Int32) (M : Mm), D_Bike_turnAbout_9 k Φ rec_9 (x1, x2, M) → WP (Ct (d + 0)) 68 Post (9, [some (.ref k), some (.int x1), some (.int x2), none], [], M) := by
  rcases hk with rfl | rfl
  · intro x1 x2 M h
    refine WP.blk [(.iload_n 1, 1, (0, 0), .null), (.iload_n 2, 1, (0, 0), .null)] (G := True) (c' := (11, [some (.ref 7), some (.int x1), some (.int x2), none], [.int x2, .int x1], M)) (by decide +kernel) rfl trivial ?_
    refine WP.br (.if_icmp .gt 44, 3, (55, 0), .null) (by decide +kernel) rfl (fun c3 => ?_) (fun c3 => ?_)
    · replace h := h.1 c3
      refine WP.blk [(.aload_n 0, 1, (0, 0), .null), (.aload_n 0, 1, (0, 0), .null), (.getfield 22, 3, (1, 3), .null), (.aload_n 0, 1, (0, 0), .null), (.getfield 34, 3, (1, 7), .null), (.isub, 1, (0, 0), .null), (.putfield 34, 3, (1, 7), .null)] (G := True) (c' := (68, [some (.ref 7), some (.int x1), some (.int x2), none], [], (mu M 7 7 ((M 7 3) - (M 7 7))))) (by decide +kernel) rfl trivial ?_
      exact WP.ret (.return_, 1, (0, 0), .null) (rk := 0) (by decide +kernel) (by decide +kernel) rfl trivial (hΦ _ h)
    · replace h := h.2 c3
      refine WP.blk [(.aload_n 0, 1, (0, 0), .null), (.getfield 53, 3, (1, 13), .null), (.iload_n 1, 1, (0, 0), .null), (.iaload, 1, (0, 0), .null), (.istore_n 3, 1, (0, 0), .null), (.aload_n 0, 1, (0, 0), .null), (.getfield 53, 3, (1, 13), .null), (.iload_n 1, 1, (0, 0), .null), (.bipush 9, 2, (0, 0), .int 9), (.aload_n 0, 1, (0, 0), .null), (.getfield 53, 3, (1, 13), .null), (.iload_n 2, 1, (0, 0), .null), (.iaload, 1, (0, 0), .null), (.isub, 1, (0, 0), .null), (.iastore, 1, (0, 0), .null), (.aload_n 0, 1, (0, 0), .null), (.getfield 53, 3, (1, 13), .null), (.iload_n 2, 1, (0, 0), .null), (.bipush 9, 2, (0, 0), .int 9), (.iload_n 3, 1, (0, 0), .null), (.isub, 1, (0, 0), .null), (.iastore, 1, (0, 0), .null), (.iinc 1 1, 3, (0, 0), .int 1), (.iinc 2 (-1), 3, (0, 0), .int (-1)), (.goto (-43), 3, (9, 0), .null)] (G := vp_in x1 6 ∧ vp_in x2 6 ∧ vp_in x1 6 ∧ vp_in x2 6 ∧ True) (c' := (9, [some (.ref 7), some (.int (x1 + 1)), some (.int (x2 + (-1))), some (.int (M 12 (Int32.toNatClampNeg x1)))], [], (mu (mu M 12 (Int32.toNatClampNeg x1) (9 - (M 12 (Int32.toNatClampNeg x2)))) 12 (Int32.toNatClampNeg x2) (9 - (M 12 (Int32.toNatClampNeg x1)))))) (by decide +kernel) rfl ⟨h.1, h.2.1, h.2.2.1, h.2.2.2.1, trivial⟩ ?_
      replace h := h.2.2.2.2
      refine WP.fgt [some (.ref 7), some (.int (x1 + 1)), some (.int (x2 + (-1))), none] (by simp [fgt]) ?_
      exact hrec_9 _ _ _ h
  · intro x1 x2 M h
    refine WP.blk [(.iload_n 1, 1, (0, 0), .null), (.iload_n 2, 1, (0, 0), .null)] (G := True) (c' := (11, [some (.ref 13), some (.int x1), some (.int x2), none], [.int x2, .int x1], M)) (by decide +kernel) rfl trivial ?_
    refine WP.br (.if_icmp .gt 44, 3, (55, 0), .null) (by decide +kernel) rfl (fun c3 => ?_) (fun c3 => ?_)
    · replace h := h.1 c3
      refine WP.blk [(.aload_n 0, 1, (0, 0), .null), (.aload_n 0, 1, (0, 0), .null), (.getfield 22, 3, (1, 3), .null), (.aload_n 0, 1, (0, 0), .null), (.getfield 34, 3, (1, 7), .null), (.isub, 1, (0, 0), .null), (.putfield 34, 3, (1, 7), .null)] (G := True) (c' := (68, [some (.ref 13), some (.int x1), some (.int x2), none], [], (mu M 13 7 ((M 13 3) - (M 13 7))))) (by decide +kernel) rfl trivial ?_
      exact WP.ret (.return_, 1, (0, 0), .null) (rk := 0) (by decide +kernel) (by decide +kernel) rfl trivial (hΦ _ h)
    · replace h := h.2 c3
      refine WP.blk [(.aload_n 0, 1, (0, 0), .null), (.getfield 53, 3, (1, 13), .null), (.iload_n 1, 1, (0, 0), .null), (.iaload, 1, (0, 0), .null), (.istore_n 3, 1, (0, 0), .null), (.aload_n 0, 1, (0, 0), .null), (.getfield 53, 3, (1, 13), .null), (.iload_n 1, 1, (0, 0), .null), (.bipush 9, 2, (0, 0), .int 9), (.aload_n 0, 1, (0, 0), .null), (.getfield 53, 3, (1, 13), .null), (.iload_n 2, 1, (0, 0), .null), (.iaload, 1, (0, 0), .null), (.isub, 1, (0, 0), .null), (.iastore, 1, (0, 0), .null), (.aload_n 0, 1, (0, 0), .null), (.getfield 53, 3, (1, 13), .null), (.iload_n 2, 1, (0, 0), .null), (.bipush 9, 2, (0, 0), .int 9), (.iload_n 3, 1, (0, 0), .null), (.isub, 1, (0, 0), .null), (.iastore, 1, (0, 0), .null), (.iinc 1 1, 3, (0, 0), .int 1), (.iinc 2 (-1), 3, (0, 0), .int (-1)), (.goto (-43), 3, (9, 0), .null)] (G := vp_in x1 6 ∧ vp_in x2 6 ∧ vp_in x1 6 ∧ vp_in x2 6 ∧ True) (c' := (9, [some (.ref 13), some (.int (x1 + 1)), some (.int (x2 + (-1))), some (.int (M 18 (Int32.toNatClampNeg x1)))], [], (mu (mu M 18 (Int32.toNatClampNeg x1) (9 - (M 18 (Int32.toNatClampNeg x2)))) 18 (Int32.toNatClampNeg x2) (9 - (M 18 (Int32.toNatClampNeg x1)))))) (by decide +kernel) rfl ⟨h.1, h.2.1, h.2.2.1, h.2.2.2.1, trivial⟩ ?_
      replace h := h.2.2.2.2
      refine WP.fgt [some (.ref 13), some (.int (x1 + 1)), some (.int (x2 + (-1))), none] (by simp [fgt]) ?_
      exact hrec_9 _ _ _ h
theorem P_Bike_turnAbout_9 {d : Nat} {Post : Option Value → Mm → Prop} {k : Nat} {Φ : Mm → Prop} (hk : k = 7 ∨ k = 13) (hΦ : ∀ M1, Φ M1 → Post none M1) : ∀ (n : Nat) (x1 : Int32) (x2 : Int32) (M : Mm), lp (D_Bike_turnAbout_9 k Φ) n (x1, x2, M) → WP (Ct (d + 0)) 68 Post (9, [some (.ref k), some (.int x1), some (.int x2), none], [], M)
  | 0, x1, x2, M, h => absurd h (by simp [lp])
  | n + 1, x1, x2, M, h => L_Bike_turnAbout_9 hk hΦ (P_Bike_turnAbout_9 hk hΦ n) x1 x2 M h
set_option maxRecDepth 100000 in
set_option maxHeartbeats 4000000 in
theorem sp_Bike_turnAbout {d : Nat} {Post : Option Value → Mm → Prop} {k : Nat} {M : Mm} {Φ : Mm → Prop} (hk : k = 7 ∨ k = 13) (h : S_Bike_turnAbout k M Φ) (hΦ : ∀ M1, Φ M1 → Post none M1) : Ct (d + 1) 68 [.ref k] M Post := by
  rcases hk with rfl | rfl
  · refine Ct.go (n := 4) (E := [some (.ref 7), none, none, none]) (by decide +kernel) (by simp [Value.category]) rfl ?_
    refine WP.blk [(.iconst 0, 1, (0, 0), .int 0), (.istore_n 1, 1, (0, 0), .null), (.aload_n 0, 1, (0, 0), .null), (.getfield 22, 3, (1, 3), .null), (.iconst 1, 1, (0, 0), .int 1), (.isub, 1, (0, 0), .null), (.istore_n 2, 1, (0, 0), .null)] (G := True) (c' := (9, [some (.ref 7), some (.int 0), some (.int ((M 7 3) - 1)), none], [], M)) (by decide +kernel) rfl trivial ?_
    obtain ⟨n, h⟩ := h
    exact P_Bike_turnAbout_9 (by decide) hΦ n _ _ _ h
  · refine Ct.go (n := 4) (E := [some (.ref 13), none, none, none]) (by decide +kernel) (by simp [Value.category]) rfl ?_
    refine WP.blk [(.iconst 0, 1, (0, 0), .int 0), (.istore_n 1, 1, (0, 0), .null), (.aload_n 0, 1, (0, 0), .null), (.getfield 22, 3, (1, 3), .null), (.iconst 1, 1, (0, 0), .int 1), (.isub, 1, (0, 0), .null), (.istore_n 2, 1, (0, 0), .null)] (G := True) (c' := (9, [some (.ref 13), some (.int 0), some (.int ((M 13 3) - 1)), none], [], M)) (by decide +kernel) rfl trivial ?_
    obtain ⟨n, h⟩ := h
    exact P_Bike_turnAbout_9 (by decide) hΦ n _ _ _ h
