/-! THE SMALL MACHINE IS THE GREAT ONE'S: what the small one comes to, the great one comes to -/
def wsJ (j : Nat) : List Cond := Cond.code (mY j) (mB j) (mL j) (mT j) :: tbG
def rmD (d : Nat) : Room := { frames := d, cells := 0, slots := 0, locals := d * 60 }
def nestW : List Cond := q_st2.map (fun e => Cond.methodLinkNest (cN e.1.1) e.1.2 (mY e.2.1) "GearRoad")
/-- the three tables and the script: cells that nobody writes -/
def Stx (A : Nat → Prop) (ad : Nat → Nat) (M : Mm) (U : State) (H : Heap) : Prop :=
  (∀ k, k = 60 ∨ k = 61 ∨ k = 62 → va_Z "GearRoad" (stN k) "[I" (.ref (ad k)) A U H) ∧
  ∀ k, 60 ≤ k → k < 64 → va_T .int (ad k) (alen M k) (fun i => .int (M k i)) A U H
def Inj (ad : Nat → Nat) : Prop := ∀ i j, i < 52 → j < 52 → ad i = ad j → i = j
theorem wd_D {ad : Nat → Nat} (cA : Nat → ClassId) (M : Mm) {A : Nat → Prop} (hI : Inj ad) (hA : ∀ q, AA ad q → A q) : va_D A (wd ad cA M) := by
  have key : ∀ (i : Nat) (p : Nat × va_E), (wd ad cA M)[i]? = some p → i < 52 ∧ p.1 = ad i := by
    intro i p h
    by_cases hi : i < 52
    · simp [wd, hi] at h
      exact ⟨hi, by rw [← h]⟩
    · simp [wd, hi] at h
  refine ⟨fun i j p q hp hq e => ?_, fun i p hp => ?_⟩
  · obtain ⟨h1, e1⟩ := key i p hp
    obtain ⟨h2, e2⟩ := key j q hq
    exact hI i j h1 h2 (by rw [← e1, ← e2, e])
  · obtain ⟨h1, e1⟩ := key i p hp
    exact hA _ ⟨i, h1, e1⟩
def Kx (D : va_G) (ad : Nat → Nat) (cA : Nat → ClassId) (M : Mm) (U : State) : Prop := va_K D clA (tysA cA) U ∧ Stx (AA ad) ad M U U.heap ∧ ∀ w ∈ nestW, va_Nw w U
def Pcc (D : va_G) (ad : Nat → Nat) (cA : Nat → ClassId) (as : List Value) (M : Mm) : Array Value → State → Prop := va_Pc (as.map (conc ad)) (fun U => va_P D clA (wd ad cA M) U.heap ∧ Kx D ad cA M U)
def Qcc (D : va_G) (ad : Nat → Nat) (cA : Nat → ClassId) (M : Mm) (Post : Option Value → Mm → Prop) : Array Value → State → Outcome → State → Prop := fun _ st o t =>
  (∃ (r : Option Value) (M' : Mm), o = .returned (r.map (conc ad)) ∧ Post r M' ∧ va_P D clA (wd ad cA M') t.heap ∧ ∀ k, 52 ≤ k → M' k = M k) ∧ va_F (AA ad) st t
theorem Stx.to {A B : Nat → Prop} {ad : Nat → Nat} {M M1 : Mm} {s U : State} {H H1 : Heap} (h : Stx A ad M s H) (hvm : s.vm.Alike U.vm) (hq : ∀ a : Nat, a < H.size → ¬ A a → H1[a]? = H[a]?) (hB : ∀ q, B q → A q) (hM : ∀ k, 52 ≤ k → M1 k = M k) : Stx B ad M1 U H1 := by
  refine ⟨fun k hk => ((h.1 k hk).kept hq).narrow hB |>.moved hvm, fun k h1 h2 => ?_⟩
  have e : alen M1 k = alen M k := by simp only [alen, hM 64 (by omega)]
  rw [e, hM k (by omega)]
  exact (((h.2 k h1 h2).kept hq).narrow hB).moved hvm
section Core
variable {p : Program} {l : Launch} {e : Env} {R : Room} {s : State} {m : MethodId} {args : Array Value} {below : List Frame} {meth : Method} {co : Code} {cells slots : Nat} {Q : State → Prop} {D : va_G} {ad : Nat → Nat} {cA : Nat → ClassId} {A : Nat → Prop} {mi : Nat} {M0 : Mm}
/-- what holds all through a method -/
def Fx (p : Program) (s : State) (m : MethodId) (args : Array Value) (co : Code) (D : va_G) (ad : Nat → Nat) (cA : Nat → ClassId) (A : Nat → Prop) (mi : Nat) (M0 : Mm) : Prop :=
  p.tables.exec = Jvm.exec ∧ co.code = mB mi ∧ co.maxLocals = mL mi ∧ s.vm.findClass (cN (mC mi)) = some m.cls ∧ (∀ w ∈ tbG, w.before args s = true) ∧ va_K D clA (tysA cA) s ∧ Stx A ad M0 s s.heap ∧ (∀ q, AA ad q → A q) ∧ (∀ w ∈ nestW, va_Nw w s) ∧ Inj ad
def Okx (s : State) (D : va_G) (ad : Nat → Nat) (cA : Nat → ClassId) (A : Nat → Prop) (M0 : Mm) (H : Heap) (locs : List Loc) (M : Mm) : Prop := va_P D clA (wd ad cA M) H ∧ va_S A s.heap H locs ∧ ∀ k, 52 ≤ k → M k = M0 k
def XX (p : Program) (l : Launch) (e : Env) (R : Room) (s : State) (m : MethodId) (args : Array Value) (below : List Frame) (meth : Method) (co : Code) (cells slots : Nat) (Q : State → Prop) (D : va_G) (ad : Nat → Nat) (cA : Nat → ClassId) (A : Nat → Prop) (mi : Nat) (M0 : Mm) : Cf → Prop
  | (pc, L, st, M) => ∀ (H : Heap) (locs : List Loc) (ls : Array Slot), Okx s D ad cA A M0 H locs M → lx ad ls (mL mi) L → W p l e R s m args below meth co H locs cells slots Q (F0 m pc ls (st.map (conc ad)))
theorem x_ldi_inv {len n pc : Nat} {L : List (Option Value)} {st : List Value} {M : Mm} {g : Option Prop} {c' : Cf} (h : x_ldi len n (pc, L, st, M) = some (g, c')) : ∃ x, lk L n = some (.int x) ∧ g = none ∧ c' = (pc + len, L, .int x :: st, M) := by
  simp only [x_ldi] at h
  split at h
  · rename_i x q; cases h; exact ⟨x, q, rfl, rfl⟩
  · cases h
theorem x_ldl_inv {len n pc : Nat} {L : List (Option Value)} {st : List Value} {M : Mm} {g : Option Prop} {c' : Cf} (h : x_ldl len n (pc, L, st, M) = some (g, c')) : ∃ x, lk L n = some (.long x) ∧ g = none ∧ c' = (pc + len, L, .long x :: st, M) := by
  simp only [x_ldl] at h
  split at h
  · rename_i x q; cases h; exact ⟨x, q, rfl, rfl⟩
  · cases h
theorem x_lda_inv {len n pc : Nat} {L : List (Option Value)} {st : List Value} {M : Mm} {g : Option Prop} {c' : Cf} (h : x_lda len n (pc, L, st, M) = some (g, c')) : ∃ x, lk L n = some (.ref x) ∧ g = none ∧ c' = (pc + len, L, .ref x :: st, M) := by
  simp only [x_lda] at h
  split at h
  · rename_i x q; cases h; exact ⟨x, q, rfl, rfl⟩
  · cases h
theorem x_sti_inv {len n pc : Nat} {L : List (Option Value)} {st : List Value} {M : Mm} {g : Option Prop} {c' : Cf} (h : x_sti len n (pc, L, st, M) = some (g, c')) : ∃ x r, st = .int x :: r ∧ g = none ∧ c' = (pc + len, stL L n (.int x), r, M) := by
  unfold x_sti at h
  split at h
  · rename_i q; cases q; cases h; exact ⟨_, _, rfl, rfl, rfl⟩
  · cases h
theorem x_stl_inv {len n pc : Nat} {L : List (Option Value)} {st : List Value} {M : Mm} {g : Option Prop} {c' : Cf} (h : x_stl len n (pc, L, st, M) = some (g, c')) : ∃ x r, st = .long x :: r ∧ g = none ∧ c' = (pc + len, stL2 L n (.long x), r, M) := by
  unfold x_stl at h
  split at h
  · rename_i q; cases q; cases h; exact ⟨_, _, rfl, rfl, rfl⟩
  · cases h
theorem x_inc_inv {len n pc : Nat} {v : Value} {L : List (Option Value)} {st : List Value} {M : Mm} {g : Option Prop} {c' : Cf} (h : x_inc len n v (pc, L, st, M) = some (g, c')) : ∃ x k, lk L n = some (.int x) ∧ v = .int k ∧ g = none ∧ c' = (pc + len, stL L n (.int (x + k)), st, M) := by
  simp only [x_inc] at h
  split at h
  · rename_i x k q; cases h; exact ⟨x, k, q, rfl, rfl, rfl⟩
  · cases h
theorem x_ii_inv {len pc : Nat} {f : Int32 → Int32 → Int32} {L : List (Option Value)} {st : List Value} {M : Mm} {g : Option Prop} {c' : Cf} (h : x_ii len f (pc, L, st, M) = some (g, c')) : ∃ x y r, st = .int y :: .int x :: r ∧ g = none ∧ c' = (pc + len, L, .int (f x y) :: r, M) := by
  unfold x_ii at h
  split at h
  · rename_i q; cases q; cases h; exact ⟨_, _, _, rfl, rfl, rfl⟩
  · cases h
theorem x_iid_inv {len pc : Nat} {f : Int32 → Int32 → Int32} {L : List (Option Value)} {st : List Value} {M : Mm} {g : Option Prop} {c' : Cf} (h : x_iid len f (pc, L, st, M) = some (g, c')) : ∃ x y r, st = .int y :: .int x :: r ∧ g = some (¬ y = 0) ∧ c' = (pc + len, L, .int (f x y) :: r, M) := by
  unfold x_iid at h
  split at h
  · rename_i q; cases q; cases h; exact ⟨_, _, _, rfl, rfl, rfl⟩
  · cases h
theorem x_i_inv {len pc : Nat} {f : Int32 → Value} {L : List (Option Value)} {st : List Value} {M : Mm} {g : Option Prop} {c' : Cf} (h : x_i len f (pc, L, st, M) = some (g, c')) : ∃ x r, st = .int x :: r ∧ g = none ∧ c' = (pc + len, L, f x :: r, M) := by
  unfold x_i at h
  split at h
  · rename_i q; cases q; cases h; exact ⟨_, _, rfl, rfl, rfl⟩
  · cases h
theorem x_lmul_inv {len pc : Nat} {L : List (Option Value)} {st : List Value} {M : Mm} {g : Option Prop} {c' : Cf} (h : x_lmul len (pc, L, st, M) = some (g, c')) : ∃ x y r, st = .long y :: .long x :: r ∧ g = none ∧ c' = (pc + len, L, .long (x * y) :: r, M) := by
  unfold x_lmul at h
  split at h
  · rename_i q; cases q; cases h; exact ⟨_, _, _, rfl, rfl, rfl⟩
  · cases h
theorem x_lrem_inv {len pc : Nat} {L : List (Option Value)} {st : List Value} {M : Mm} {g : Option Prop} {c' : Cf} (h : x_lrem len (pc, L, st, M) = some (g, c')) : ∃ x y r, st = .long y :: .long x :: r ∧ g = some (¬ y = 0) ∧ c' = (pc + len, L, .long (lrm x y) :: r, M) := by
  unfold x_lrem at h
  split at h
  · rename_i q; cases q; cases h; exact ⟨_, _, _, rfl, rfl, rfl⟩
  · cases h
theorem x_lcmp_inv {len pc : Nat} {L : List (Option Value)} {st : List Value} {M : Mm} {g : Option Prop} {c' : Cf} (h : x_lcmp len (pc, L, st, M) = some (g, c')) : ∃ x y r, st = .long y :: .long x :: r ∧ g = none ∧ c' = (pc + len, L, .int (lg_cmp x y) :: r, M) := by
  unfold x_lcmp at h
  split at h
  · rename_i q; cases q; cases h; exact ⟨_, _, _, rfl, rfl, rfl⟩
  · cases h
theorem x_l2i_inv {len pc : Nat} {L : List (Option Value)} {st : List Value} {M : Mm} {g : Option Prop} {c' : Cf} (h : x_l2i len (pc, L, st, M) = some (g, c')) : ∃ x r, st = .long x :: r ∧ g = none ∧ c' = (pc + len, L, .int x.toInt32 :: r, M) := by
  unfold x_l2i at h
  split at h
  · rename_i q; cases q; cases h; exact ⟨_, _, rfl, rfl, rfl⟩
  · cases h
theorem cat1_cat {ad : Nat → Nat} {v : Value} (h : cat1 v = true) : (conc ad v).category = 1 := by cases v <;> first | rfl | (simp [cat1] at h)
theorem x_dup_inv {len pc : Nat} {L : List (Option Value)} {st : List Value} {M : Mm} {g : Option Prop} {c' : Cf} (h : x_dup len (pc, L, st, M) = some (g, c')) : ∃ v r, st = v :: r ∧ cat1 v = true ∧ g = none ∧ c' = (pc + len, L, v :: v :: r, M) := by
  unfold x_dup at h
  split at h
  · rename_i q; cases q
    cases hc : cat1 _ with
    | true => rw [hc] at h; cases h; exact ⟨_, _, rfl, hc, rfl, rfl⟩
    | false => rw [hc] at h; cases h
  · cases h
theorem x_pop_inv {len pc : Nat} {L : List (Option Value)} {st : List Value} {M : Mm} {g : Option Prop} {c' : Cf} (h : x_pop len (pc, L, st, M) = some (g, c')) : ∃ v r, st = v :: r ∧ cat1 v = true ∧ g = none ∧ c' = (pc + len, L, r, M) := by
  unfold x_pop at h
  split at h
  · rename_i q; cases q
    cases hc : cat1 _ with
    | true => rw [hc] at h; cases h; exact ⟨_, _, rfl, hc, rfl, rfl⟩
    | false => rw [hc] at h; cases h
  · cases h
theorem x_dup2_inv {len pc : Nat} {L : List (Option Value)} {st : List Value} {M : Mm} {g : Option Prop} {c' : Cf} (h : x_dup2 len (pc, L, st, M) = some (g, c')) : ∃ v w r, st = v :: w :: r ∧ cat1 v = true ∧ cat1 w = true ∧ g = none ∧ c' = (pc + len, L, v :: w :: v :: w :: r, M) := by
  unfold x_dup2 at h
  split at h
  · rename_i v w _ _ q; cases q
    cases hc : cat1 _ && cat1 _ with
    | true => rw [hc] at h; cases h; simp only [Bool.and_eq_true] at hc; exact ⟨_, _, _, rfl, hc.1, hc.2, rfl, rfl⟩
    | false => rw [hc] at h; cases h
  · cases h
theorem x_gf_inv {len a b pc : Nat} {L : List (Option Value)} {st : List Value} {M : Mm} {g : Option Prop} {c' : Cf} (h : x_gf len a b (pc, L, st, M) = some (g, c')) : ∃ k fs r, st = .ref k :: r ∧ nth axl k = some (.inr (a, fs)) ∧ g = none ∧ ((nth fs b = some none ∧ c' = (pc + len, L, .int (M k b) :: r, M)) ∨ ∃ q, nth fs b = some (some q) ∧ c' = (pc + len, L, .ref q :: r, M)) := by
  unfold x_gf at h
  split at h
  · rename_i q; cases q
    split at h
    · rename_i c fs hk
      cases hb : Nat.beq a c with
      | false => rw [hb] at h; cases h
      | true =>
        rw [hb] at h
        have e := Nat.eq_of_beq_eq_true hb
        subst e
        simp only [cond_true] at h
        split at h
        · rename_i hn; cases h; exact ⟨_, _, _, rfl, hk, rfl, Or.inl ⟨hn, rfl⟩⟩
        · rename_i q hn; cases h; exact ⟨_, _, _, rfl, hk, rfl, Or.inr ⟨q, hn, rfl⟩⟩
        · cases h
    · cases h
  · cases h
theorem x_pf_inv {len a b pc : Nat} {L : List (Option Value)} {st : List Value} {M : Mm} {g : Option Prop} {c' : Cf} (h : x_pf len a b (pc, L, st, M) = some (g, c')) : ∃ k x fs r, st = .int x :: .ref k :: r ∧ nth axl k = some (.inr (a, fs)) ∧ nth fs b = some none ∧ g = (bif isB a b then some (x = 0 ∨ x = 1) else none) ∧ c' = (pc + len, L, r, mu M k b x) := by
  unfold x_pf at h
  split at h
  · rename_i q; cases q
    split at h
    · rename_i c fs hk
      cases hb : Nat.beq a c with
      | false => rw [hb] at h; cases h
      | true =>
        rw [hb] at h
        have e := Nat.eq_of_beq_eq_true hb
        subst e
        simp only [cond_true] at h
        split at h
        · rename_i hn; cases h; exact ⟨_, _, _, _, rfl, hk, hn, rfl, rfl⟩
        · cases h
    · cases h
  · cases h
theorem x_iald_inv {len pc : Nat} {L : List (Option Value)} {st : List Value} {M : Mm} {g : Option Prop} {c' : Cf} (h : x_iald len (pc, L, st, M) = some (g, c')) : ∃ k i r, st = .int i :: .ref k :: r ∧ c' = (pc + len, L, .int (M k i.toNatClampNeg) :: r, M) ∧ ((∃ n, nth axl k = some (.inl (0, n)) ∧ g = some (vp_in i n)) ∨ (60 ≤ k ∧ k < 64 ∧ g = some (vp_in i (alen M k)))) := by
  unfold x_iald at h
  split at h
  · rename_i q; cases q
    split at h
    · rename_i n hk; cases h; exact ⟨_, _, _, rfl, rfl, Or.inl ⟨n, hk, rfl⟩⟩
    · cases h
    · rename_i k r _ hk
      cases hb : (Nat.blt 59 k && Nat.blt k 64) with
      | false => rw [hb] at h; cases h
      | true =>
        rw [hb] at h
        simp only [Bool.and_eq_true, Nat.blt_eq] at hb
        cases h
        exact ⟨_, _, _, rfl, rfl, Or.inr ⟨hb.1, hb.2, rfl⟩⟩
  · cases h
theorem x_bald_inv {len pc : Nat} {L : List (Option Value)} {st : List Value} {M : Mm} {g : Option Prop} {c' : Cf} (h : x_bald len (pc, L, st, M) = some (g, c')) : ∃ k i n r, st = .int i :: .ref k :: r ∧ c' = (pc + len, L, .int (M k i.toNatClampNeg) :: r, M) ∧ g = some (vp_in i n) ∧ (nth axl k = some (.inl (1, n)) ∨ nth axl k = some (.inl (2, n))) := by
  unfold x_bald at h
  split at h
  · rename_i q; cases q
    split at h
    · rename_i n hk; cases h; exact ⟨_, _, n, _, rfl, rfl, rfl, Or.inl hk⟩
    · rename_i n hk; cases h; exact ⟨_, _, n, _, rfl, rfl, rfl, Or.inr hk⟩
    · cases h
  · cases h
theorem x_aald_inv {len pc : Nat} {L : List (Option Value)} {st : List Value} {M : Mm} {g : Option Prop} {c' : Cf} (h : x_aald len (pc, L, st, M) = some (g, c')) : ∃ k i n r, st = .int i :: .ref k :: r ∧ c' = (pc + len, L, .ref (imgs i.toNatClampNeg) :: r, M) ∧ g = some (vp_in i n) ∧ nth axl k = some (.inl (3, n)) := by
  unfold x_aald at h
  split at h
  · rename_i q; cases q
    split at h
    · rename_i n hk; cases h; exact ⟨_, _, n, _, rfl, rfl, rfl, hk⟩
    · cases h
  · cases h
theorem x_iast_inv {len pc : Nat} {L : List (Option Value)} {st : List Value} {M : Mm} {g : Option Prop} {c' : Cf} (h : x_iast len (pc, L, st, M) = some (g, c')) : ∃ k i x n r, st = .int x :: .int i :: .ref k :: r ∧ c' = (pc + len, L, r, mu M k i.toNatClampNeg x) ∧ g = some (vp_in i n) ∧ nth axl k = some (.inl (0, n)) := by
  unfold x_iast at h
  split at h
  · rename_i q; cases q
    split at h
    · rename_i n hk; cases h; exact ⟨_, _, _, n, _, rfl, rfl, rfl, hk⟩
    · cases h
  · cases h
theorem x_bast_inv {len pc : Nat} {L : List (Option Value)} {st : List Value} {M : Mm} {g : Option Prop} {c' : Cf} (h : x_bast len (pc, L, st, M) = some (g, c')) : ∃ k i x n r, st = .int x :: .int i :: .ref k :: r ∧ g = some (vp_in i n) ∧ ((nth axl k = some (.inl (1, n)) ∧ c' = (pc + len, L, r, mu M k i.toNatClampNeg (vp_nar .byte x))) ∨ (nth axl k = some (.inl (2, n)) ∧ c' = (pc + len, L, r, mu M k i.toNatClampNeg (vp_nar .boolean x)))) := by
  unfold x_bast at h
  split at h
  · rename_i q; cases q
    split at h
    · rename_i n hk; cases h; exact ⟨_, _, _, n, _, rfl, rfl, Or.inl ⟨hk, rfl⟩⟩
    · rename_i n hk; cases h; exact ⟨_, _, _, n, _, rfl, rfl, Or.inr ⟨hk, rfl⟩⟩
    · cases h
  · cases h
theorem x_alen_inv {len pc : Nat} {L : List (Option Value)} {st : List Value} {M : Mm} {g : Option Prop} {c' : Cf} (h : x_alen len (pc, L, st, M) = some (g, c')) : ∃ r, st = .ref 63 :: r ∧ c' = (pc + len, L, .int (Int32.ofNat (alen M 63)) :: r, M) := by
  unfold x_alen at h
  split at h
  · rename_i k _ _ q; cases q
    cases hb : Nat.beq _ 63 with
    | false => rw [hb] at h; cases h
    | true =>
      rw [hb] at h
      have e := Nat.eq_of_beq_eq_true hb
      subst e
      cases h
      exact ⟨_, rfl, rfl⟩
  · cases h
theorem x_copy_inv {len pc : Nat} {L : List (Option Value)} {st : List Value} {M : Mm} {g : Option Prop} {c' : Cf} (h : x_copy len (pc, L, st, M) = some (g, c')) : ∃ (k0 k1 n0 n1 : Nat) (n dp sp : Int32) (r : List Value), st = .int n :: .int dp :: .ref k1 :: .int sp :: .ref k0 :: r ∧ nth axl k0 = some (.inl (0, n0)) ∧ nth axl k1 = some (.inl (0, n1)) ∧ (r.map Value.category).sum ≤ 8 ∧ g = some (cpOk sp dp n n0 n1) ∧ c' = (pc + len, L, r, mcp M k0 k1 sp.toNatClampNeg dp.toNatClampNeg n.toNatClampNeg) := by
  unfold x_copy at h
  split at h
  · rename_i q; cases q
    split at h
    · rename_i n0 n1 h0 h1
      cases hb : Nat.ble _ 8 with
      | false => rw [hb] at h; cases h
      | true => rw [hb] at h; cases h; exact ⟨_, _, n0, n1, _, _, _, _, rfl, h0, h1, Nat.le_of_ble_eq_true hb, rfl, rfl⟩
    · cases h
  · cases h
end Core
