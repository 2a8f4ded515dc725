/-! WHAT CLASS AND REFERENCE KEEP ALIKE -/
def RelB (f rg kd th on sl v : Nat → Int32) : Prop :=
  (f 1 = v 1 ∧ f 2 = v 2 ∧ f 3 = v 3 ∧ f 4 = v 0 ∧ f 5 = v 4 ∧ f 6 = v 5 ∧ f 7 = v 6 ∧ f 8 = v 7) ∧
  (∀ i : Nat, (i : Int) < (v 1).toInt → rg i = v (8 + i)) ∧
  (∀ i : Nat, (i : Int) < (v 2).toInt → kd i = v (11 + i) ∧ th i = v (17 + i) ∧ on i = v (29 + i)) ∧
  (∀ i : Nat, (i : Int) < (v 3).toInt → sl i = v (23 + i))
/-- a good BIKE, as the reference's row of numbers -/
def VB (v : Nat → Int32) : Prop :=
  ((1 ≤ (v 1).toInt ∧ (v 1).toInt ≤ 3) ∧ (1 ≤ (v 2).toInt ∧ (v 2).toInt ≤ 6) ∧ (1 ≤ (v 3).toInt ∧ (v 3).toInt ≤ 6) ∧ (1 ≤ (v 0).toInt ∧ (v 0).toInt ≤ 99) ∧ (0 ≤ (v 4).toInt ∧ (v 4).toInt < (v 1).toInt) ∧ (0 ≤ (v 5).toInt ∧ (v 5).toInt < (v 2).toInt) ∧ (0 ≤ (v 6).toInt ∧ (v 6).toInt ≤ (v 3).toInt) ∧ (0 ≤ (v 7).toInt ∧ (v 7).toInt ≤ 99999)) ∧
  (∀ i : Nat, (i : Int) < (v 1).toInt → 20 ≤ (v (8 + i)).toInt ∧ (v (8 + i)).toInt ≤ 60) ∧
  (∀ i : Nat, (i : Int) < (v 2).toInt → (1 ≤ (v (11 + i)).toInt ∧ (v (11 + i)).toInt ≤ 5) ∧ (10 ≤ (v (17 + i)).toInt ∧ (v (17 + i)).toInt ≤ 40) ∧ (0 ≤ (v (29 + i)).toInt ∧ (v (29 + i)).toInt ≤ 99999)) ∧
  (∀ i : Nat, (i : Int) < (v 3).toInt → 0 ≤ (v (23 + i)).toInt ∧ (v (23 + i)).toInt ≤ 9)
def IRows (fin st : Int32) (ln sz it ln' mn it' : Nat → Int32) : Prop :=
  fin = st ∧ ∀ r, r < 8 → ln r = ln' r ∧ sz r = mn r ∧ (-1 ≤ (ln' r).toInt ∧ (ln' r).toInt ≤ 2) ∧ (0 ≤ (mn r).toInt ∧ (mn r).toInt ≤ 40) ∧ ∀ k : Nat, (k : Int) < (mn r).toInt → it (40 * r + k) = it' (40 * r + k)
def ITape (sz ty : Int32) (bs tp : Nat → Int32) : Prop :=
  sz = ty ∧ (0 ≤ ty.toInt ∧ ty.toInt ≤ 80) ∧ ∀ i : Nat, (i : Int) < ty.toInt → bs i = tp i &&& 255 ∧ 0 ≤ (bs i).toInt ∧ (bs i).toInt ≤ 255
def IBike (f rg kd th on sl v : Nat → Int32) (there : Int32) : Prop :=
  RelB f rg kd th on sl v ∧ f 0 = there ∧ ((there = 1 ∧ VB v) ∨ (there = 0 ∧ ∀ i, i < 8 → v i = 0))
/-- one ACT that is kept: by the class, by the reference, beside what is now -/
def Rec (c b v : Nat → Int32) : Prop :=
  (c 0 = b 0 ∧ c 1 = b 4 ∧ c 2 = b 5 ∧ c 3 = b 6 ∧ c 4 = b 7) ∧ (∀ j : Nat, (j : Int) < (v 3).toInt → c (5 + j) = b (23 + j)) ∧ (∀ j : Nat, (j : Int) < (v 2).toInt → c (11 + j) = b (29 + j)) ∧ (∀ j : Nat, (1 ≤ j ∧ j ≤ 3) ∨ (8 ≤ j ∧ j < 23) → b j = v j) ∧ VB b
def IActs (sz nx ac there : Int32) (kp bf v : Nat → Int32) : Prop :=
  sz = ac ∧ ∃ s p : Nat, s ≤ 24 ∧ p < 24 ∧ ac = nI s ∧ nx = nI p ∧ (0 < s → there = 1) ∧ ∀ i, i < s → Rec (fun j => kp (17 * ((p + 24 - s + i) % 24) + j)) (fun j => bf (35 * i + j)) v
def IImg (f rg kd th on sl v : Nat → Int32) (kept : Int32) : Prop :=
  f 0 = kept ∧ ((kept = 1 ∧ RelB f rg kd th on sl v ∧ VB v) ∨ kept = 0)
def ITrc (sz td : Int32) (nm tr : Nat → Int32) : Prop := sz = td ∧ (0 ≤ td.toInt ∧ td.toInt ≤ 16) ∧ ∀ i : Nat, (i : Int) < td.toInt → nm i = tr i
def ITab (a b c : Nat → Int32) : Prop := a = (fun i => (nth [(-1000000), 0, 1, 1, 0, 4] i).getD 0) ∧ b = (fun i => (nth [10, 11, 12, 11, 13, 14] i).getD 0) ∧ c = (fun i => (nth [20, 21, 24, 22, 23, 23] i).getD 0)
/-- an image is only of a BIKE that was there -/
def IKept (a b t : Int32) : Prop := (a = 1 ∨ b = 1) → t = 1
def Inv (M : Mm) : Prop :=
  IRows (M 0 8) (M 39 3) (M 2) (M 3) (M 4) (M 40) (M 41) (M 42) ∧ ITape (M 5 1) (M 39 13) (M 6) (M 49) ∧ M 0 9 = M 39 14 ∧ IBike (M 7) (M 8) (M 9) (M 10) (M 11) (M 12) (M 44) (M 39 5) ∧ IActs (M 32 1) (M 32 2) (M 39 9) (M 39 5) (M 33) (M 46) (M 44) ∧ (IImg (M 20) (M 21) (M 22) (M 23) (M 24) (M 25) (M 47) (M 48 0) ∧ IImg (M 26) (M 27) (M 28) (M 29) (M 30) (M 31) (fun j => M 47 (35 + j)) (M 48 1)) ∧ ITrc (M 37 1) (M 39 22) (M 38) (M 51) ∧ ITab (M 60) (M 61) (M 62) ∧ IKept (M 48 0) (M 48 1) (M 39 5)
/-! numbers -/
theorem tI_bnd (x : Int32) : -2147483648 ≤ x.toInt ∧ x.toInt ≤ 2147483647 := by
  have h1 := Int32.le_toInt x
  have h2 := Int32.toInt_lt x
  omega
theorem bmod_in {z : Int} (h1 : -2147483648 ≤ z) (h2 : z ≤ 2147483647) : z.bmod (2 ^ 32) = z := by
  apply Int.bmod_eq_of_le
  · omega
  · omega
theorem tI_add {a b : Int32} (h1 : -2147483648 ≤ a.toInt + b.toInt) (h2 : a.toInt + b.toInt ≤ 2147483647) : (a + b).toInt = a.toInt + b.toInt := by
  rw [Int32.toInt_add]; exact bmod_in h1 h2
theorem tI_sub {a b : Int32} (h1 : -2147483648 ≤ a.toInt - b.toInt) (h2 : a.toInt - b.toInt ≤ 2147483647) : (a - b).toInt = a.toInt - b.toInt := by
  rw [Int32.toInt_sub]; exact bmod_in h1 h2
theorem tI_mul {a b : Int32} (h1 : -2147483648 ≤ a.toInt * b.toInt) (h2 : a.toInt * b.toInt ≤ 2147483647) : (a * b).toInt = a.toInt * b.toInt := by
  rw [Int32.toInt_mul]; exact bmod_in h1 h2
theorem tI_eq {a b : Int32} : a = b ↔ a.toInt = b.toInt := Int32.toInt_inj.symm
theorem tI_lt {a b : Int32} : a < b ↔ a.toInt < b.toInt := Int32.lt_iff_toInt_lt
theorem tI_le {a b : Int32} : a ≤ b ↔ a.toInt ≤ b.toInt := Int32.le_iff_toInt_le
theorem cl_i (x : Int32) : x.toNatClampNeg = x.toInt.toNat := rfl
theorem cl_n {x : Int32} {n : Nat} (h : x.toInt = n) : x.toNatClampNeg = n := by rw [cl_i, h]; rfl
/-! what a pure method answers -/
def Val (S : (Int32 → Prop) → Prop) (v : Int32) : Prop := ∀ Φ : Int32 → Prop, Φ v → S Φ
/-- both calls only answer, and alike -/
theorem op_pure {M : Mm} (hI : Inv M) {S SR : (Int32 → Prop) → Prop} {v : Int32} (h : Val S v) (hR : Val SR v) {SR' : Mm → (Int32 → Prop) → Prop} (e : SR' M = SR) : Op Inv M (fun Φ => S (fun r => Φ r M)) (fun M1 Ψ => SR' M1 (fun r => Ψ r M1)) := by
  intro Φ k
  refine h _ (k v M ⟨rfl, rfl⟩ (fun Ψ hΨ => ?_))
  show SR' M _
  rw [e]
  exact hR _ (hΨ M hI ⟨rfl, rfl⟩)
/-- within -/
def wi (a b c : Int32) : Int32 := if b.toInt ≤ a.toInt ∧ a.toInt ≤ c.toInt then 1 else 0
theorem wi_01 (a b c : Int32) : wi a b c = 0 ∨ wi a b c = 1 := by unfold wi; split <;> simp
theorem wi_1 {a b c : Int32} (h : ¬ wi a b c = 0) : b.toInt ≤ a.toInt ∧ a.toInt ≤ c.toInt := by
  unfold wi at h; split at h
  · assumption
  · exact absurd rfl h
theorem wi_0 {a b c : Int32} (h : wi a b c = 0) : ¬ (b.toInt ≤ a.toInt ∧ a.toInt ≤ c.toInt) := by
  unfold wi at h; split at h
  · exact absurd h (by decide)
  · assumption
theorem v_in (M : Mm) (a b c : Int32) : Val (S_R_in M a b c) (wi a b c) := by
  intro Φ h
  unfold S_R_in
  refine ⟨fun h1 => ?_, fun h1 => ⟨fun h2 => ?_, fun h2 => ?_⟩⟩ <;> rw [tI_lt] at * <;> unfold wi at h
  · rw [if_neg (by omega)] at h; exact h
  · rw [if_neg (by omega)] at h; exact h
  · rw [if_pos (by omega)] at h; exact h
theorem v_within (M : Mm) (a b c : Int32) : Val (S_within M a b c) (wi a b c) := v_in M a b c
theorem v_hasRing (k : Nat) (M : Mm) (a : Int32) : Val (S_Bike_hasRing k M a) (wi a 0 (M k 1 - 1)) := fun _ h => v_within M _ _ _ _ ⟨wi_01 _ _ _, h⟩
theorem v_hasCog (k : Nat) (M : Mm) (a : Int32) : Val (S_Bike_hasCog k M a) (wi a 0 (M k 2 - 1)) := fun _ h => v_within M _ _ _ _ ⟨wi_01 _ _ _, h⟩
theorem v_hasPiece (k : Nat) (M : Mm) (a : Int32) : Val (S_Bike_hasPiece k M a) (wi a 0 (M k 3 - 1)) := fun _ h => v_within M _ _ _ _ ⟨wi_01 _ _ _, h⟩
theorem v_isRow (M : Mm) (a : Int32) : Val (S_Rows_isRow M a) (wi a 0 7) := fun _ h => v_within M _ _ _ _ ⟨wi_01 _ _ _, h⟩
theorem vr_isRow (M : Mm) (a : Int32) : Val (S_R_isRow M a) (wi a 0 7) := fun _ h => v_in M _ _ _ _ ⟨wi_01 _ _ _, h⟩
theorem vr_isCog (M : Mm) (a : Int32) : Val (S_R_isCog M a) (wi a 0 (M 44 2 - 1)) := fun _ h => v_in M _ _ _ _ ⟨wi_01 _ _ _, h⟩
theorem vr_isPiece (M : Mm) (a : Int32) : Val (S_R_isPiece M a) (wi a 0 (M 44 3 - 1)) := fun _ h => v_in M _ _ _ _ ⟨wi_01 _ _ _, h⟩
/-- the smallest calls -/
theorem op_fault {M : Mm} (hI : Inv M) : Op_fault Inv M :=
  op_pure hI (S := S_fault M) (v := M 0 9) (fun _ h => h) (SR := S_R_fault M) (fun _ h => by show _; rw [hI.2.2.1] at h; exact h) (SR' := S_R_fault) rfl
theorem op_status {M : Mm} (hI : Inv M) : Op_status Inv M :=
  op_pure hI (S := S_status M) (v := M 0 8) (fun _ h => h) (SR := S_R_status M) (fun _ h => by show _; rw [hI.1.1] at h; exact h) (SR' := S_R_status) rfl
theorem op_trace {M : Mm} (hI : Inv M) : Op_trace Inv M := by
  intro a
  obtain ⟨h1, h2, h3⟩ := hI.2.2.2.2.2.2.1
  by_cases hw : wi a 0 (M 39 22 - 1) = 0
  · refine op_pure hI (S := S_trace M a) (v := -1000000) (fun Φ h => ?_) (SR := S_R_trace M a) (fun Φ h => ?_) (SR' := fun M => S_R_trace M a) rfl
    · refine v_within M _ _ _ _ ⟨fun _ => h, fun n => absurd (by rw [h1]; exact hw) n⟩
    · refine v_in M _ _ _ _ ⟨fun _ => h, fun n => absurd hw n⟩
  · have hb := wi_1 hw
    rw [tI_sub (by have := tI_bnd (M 39 22); show _ ≤ _ - (1 : Int); omega) (by have := tI_bnd (M 39 22); show _ - (1 : Int) ≤ _; omega)] at hb
    have hb1 : 0 ≤ a.toInt := hb.1
    have hb2 : a.toInt ≤ (M 39 22).toInt - 1 := hb.2
    have hv : vp_in a 16 := vp_in_iff.mpr ⟨hb1, by show _ < (16 : Int); omega⟩
    have he := h3 a.toNatClampNeg (by rw [cl_i]; omega)
    refine op_pure hI (S := S_trace M a) (v := M 51 a.toNatClampNeg) (fun Φ h => ?_) (SR := S_R_trace M a) (fun Φ h => ?_) (SR' := fun M => S_R_trace M a) rfl
    · refine v_within M _ _ _ _ ⟨fun n => absurd n (by rw [h1]; exact hw), fun _ => ⟨hv, by rw [he]; exact h⟩⟩
    · refine v_in M _ _ _ _ ⟨fun n => absurd n hw, fun _ => ⟨hv, h⟩⟩
