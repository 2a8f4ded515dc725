/-! TEXTS: the reference's TOKENS -/
def FrR (M0 M : Mm) : Prop := (∀ k, ¬ k = 39 → ¬ k = 45 → M k = M0 k) ∧ ∀ j, j < 15 ∨ 19 < j → M 39 j = M0 39 j
/-- the reference's tape -/
def TQ (M : Mm) (N : Nat) (l : Nat → Int32) : Prop := M 39 13 = nI N ∧ N ≤ 80 ∧ (∀ i, i < N → M 49 i &&& 255 = l i ∧ 0 ≤ (l i).toInt) ∧ (∀ i, N ≤ i → l i = -1)
/-- the TOKEN at i, as it is held: 15 behind it, 16 where it begins, 17 its sort, 18 its value -/
def TK (l f : Nat → Int32) (i : Nat) : Prop := f 16 = nI i ∧ (l i = -1 → f 17 = 3 ∧ f 15 = nI i) ∧ (fgr (l i) → (fgr (l (i + 1)) → (fgr (l (i + 2)) → f 17 = 4) ∧ (¬ fgr (l (i + 2)) → f 17 = 1 ∧ f 15 = nI (i + 2) ∧ f 18 = d2 l i)) ∧ (¬ fgr (l (i + 1)) → f 17 = 1 ∧ f 15 = nI (i + 1) ∧ f 18 = d1 l i)) ∧ (¬ l i = -1 → ¬ fgr (l i) → f 15 = nI (i + 1) ∧ f 18 = l i ∧ f 17 = (if ¬ wi (l i) 97 122 = 0 then 0 else if l i = 59 ∨ l i = 44 then 2 else 4))
section Tokens
variable {M : Mm} {N : Nat} {l : Nat → Int32}
theorem r_here (h : TQ M N l) {j : Nat} (e : M 39 15 = nI j) (hj : j < 2 ^ 31) : Val (S_R_here M) (l j) := by
  intro Φ k
  have h80 := h.2.1
  unfold S_R_here
  rw [e, h.1, nI_clamp hj]
  by_cases q : j < N
  · rw [(h.2.2.1 j q).1]
    exact sk (nI_ge q (by omega)) ⟨vp_in_nI (by omega) (by decide), k⟩
  · rw [h.2.2.2 j (by omega)] at k
    exact ht (nI_le (by omega) hj) k
theorem wi_fgr (x : Int32) : (wi x 48 57 = 0) ↔ ¬ fgr x := by
  have e48 : (48 : Int32).toInt = 48 := by decide
  have e57 : (57 : Int32).toInt = 57 := by decide
  unfold wi
  rw [e48, e57]
  by_cases q : 48 ≤ x.toInt ∧ x.toInt ≤ 57
  · rw [if_pos q]; exact ⟨fun z => absurd z (by decide), fun z => absurd q z⟩
  · rw [if_neg q]; exact ⟨fun _ => q, fun _ => rfl⟩
/-- a value behind j figures -/
def fgv (l : Nat → Int32) (i j : Nat) (x : Int32) : Prop := (j = 0 → x = 0) ∧ (j = 1 → x = d1 l i) ∧ (j = 2 → x = d2 l i)
theorem d1_b {l : Nat → Int32} {i : Nat} (h : fgr (l i)) : 0 ≤ (d1 l i).toInt ∧ (d1 l i).toInt ≤ 9 := by
  have e := fgr_sub h
  unfold d1
  rw [e]; omega
theorem fst1 (x : Int32) : 10 * 0 + x - 48 = x - 48 := by rw [Int32.mul_zero, Int32.zero_add]
theorem fst2 (x y : Int32) : 10 * x + y - 48 = x * 10 + (y - 48) := by
  rw [Int32.mul_comm, Int32.sub_eq_add_neg, Int32.sub_eq_add_neg, Int32.add_assoc]
theorem r_digits (h : TQ M N l) {i : Nat} (e16 : M 39 16 = nI i) (e15 : M 39 15 = nI i) (hi : i ≤ 80) (h0 : fgr (l i)) (Φ : Mm → Prop) (k : ∀ f : Nat → Int32, f 16 = nI i → (∀ j, j < 15 ∨ 18 < j → f j = M 39 j) → (fgr (l (i + 1)) → (fgr (l (i + 2)) → f 17 = 4) ∧ (¬ fgr (l (i + 2)) → f 17 = 1 ∧ f 15 = nI (i + 2) ∧ f 18 = d2 l i)) → (¬ fgr (l (i + 1)) → f 17 = 1 ∧ f 15 = nI (i + 1) ∧ f 18 = d1 l i) → Φ (ms M 39 f)) : ∃ n, lp (D_R_step_47 Φ) n (0, M) := by
  have h80 := h.2.1
  refine lp_ex (fun q (st : Int32 × Mm) => ∃ j x f, i + j + q = 200 ∧ st = (x, ms M 39 f) ∧ f 15 = nI (i + j) ∧ f 16 = nI i ∧ (∀ t, t < 15 ∨ 18 < t → f t = M 39 t) ∧ (∀ t, t < j → fgr (l (i + t))) ∧ fgv l i j x) ?_ ?_ (i := 200 - i) ⟨0, 0, M 39, by omega, by rw [ms_self], by rw [Nat.add_zero]; exact e15, e16, fun _ _ => rfl, fun t ht => absurd ht (by omega), fun _ => rfl, fun z => absurd z (by omega), fun z => absurd z (by omega)⟩
  · rintro st ⟨j, x, f, hj, rfl, f15, f16, ff, hd, hv⟩ rec
    have hdj := hd (j - 1) (by omega)
    rw [h.2.2.2 (i + (j - 1)) (by omega)] at hdj
    exact absurd hdj (by decide)
  · rintro q st ⟨j, x, f, hj, rfl, f15, f16, ff, hd, hv⟩ rec hrec
    have hT : TQ (ms M 39 f) N l := ⟨by rw [← h.1]; exact ff 13 (by omega), h.2⟩
    have vh := r_here hT (j := i + j) f15 (by omega)
    rw [D_R_step_47]
    refine vh _ (v_in _ _ _ _ _ ?_)
    by_cases z : fgr (l (i + j))
    · refine sk (fun y => (wi_fgr _).mp y z) ?_
      have nx : ∀ y, fgv l i (j + 1) y → D_R_step_83 Φ rec (y, ms M 39 f) := fun y hy M2 q2 => by
        have e : mu (ms M 39 f) 39 15 (ms M 39 f 39 15 + 1) = ms M 39 (upd f 15 (nI (i + (j + 1)))) := by
          rw [mu_ms]
          show ms M 39 (upd f 15 (f 15 + 1)) = _
          rw [f15, nI_inc]; rfl
        rw [q2, e]
        refine hrec _ ⟨j + 1, y, upd f 15 (nI (i + (j + 1))), by omega, rfl, rfl, f16, fun t h1 => ?_, fun t h1 => ?_, hy⟩
        · rw [pk_un (by omega)]; exact ff t h1
        · by_cases w : t = j
          · rw [w]; exact z
          · exact hd t (by omega)
      have n3 : ∀ y, 2 ≤ j → fgv l i (j + 1) y := fun y h2 => ⟨fun w => absurd w (by omega), fun w => absurd w (by omega), fun w => absurd w (by omega)⟩
      refine ⟨fun y => vh _ (nx _ ?_), fun y => nx _ ?_⟩
      · by_cases j2 : 2 ≤ j
        · exact n3 _ j2
        · by_cases j0 : j = 0
          · subst j0
            rw [hv.1 rfl, Nat.add_zero]
            exact ⟨fun w => absurd w (by omega), fun _ => fst1 _, fun w => absurd w (by omega)⟩
          · obtain rfl : j = 1 := by omega
            rw [hv.2.1 rfl]
            exact ⟨fun w => absurd w (by omega), fun w => absurd w (by omega), fun _ => fst2 _ _⟩
      · by_cases j2 : 2 ≤ j
        · exact n3 _ j2
        · have e99 : (99 : Int32).toInt = 99 := by decide
          have e0 : (0 : Int32).toInt = 0 := by decide
          rw [tI_le, e99] at y
          by_cases j0 : j = 0
          · rw [hv.1 j0, e0] at y; omega
          · have b := d1_b h0
            rw [hv.2.1 (by omega)] at y; omega
    · refine ht ((wi_fgr _).mpr z) ?_
      have hj0 : ¬ j = 0 := fun w => by subst w; exact z h0
      have key : ∀ s : Int32, (j ≤ 2 → s = 1) → (2 < j → s = 4) → D_R_step_116 Φ (x, s, ms M 39 f) := fun s s1 s4 M3 q3 M4 q4 => by
        have e : mu (mu (ms M 39 f) 39 17 s) 39 18 x = ms M 39 (upd (upd f 17 s) 18 x) := by rw [mu_ms, mu_ms]
        rw [q4, q3, e]
        refine k _ f16 (fun t h1 => ?_) (fun w1 => ⟨fun w2 => ?_, fun w2 => ?_⟩) (fun w1 => ?_)
        · rw [pk_un (by omega), pk_un (by omega)]; exact ff t (by omega)
        · show s = 4
          refine s4 ?_
          rcases Nat.lt_or_ge 2 j with w | w
          · exact w
          · rcases (by omega : j = 1 ∨ j = 2) with w3 | w3
            · rw [w3] at z; exact absurd w1 z
            · rw [w3] at z; exact absurd w2 z
        · have j2 : j = 2 := by
            rcases Nat.lt_or_ge 2 j with w | w
            · exact absurd (hd 2 w) w2
            · rcases (by omega : j = 1 ∨ j = 2) with w3 | w3
              · rw [w3] at z; exact absurd w1 z
              · exact w3
          refine ⟨s1 (by omega), ?_, hv.2.2 j2⟩
          rw [j2] at f15; exact f15
        · have j1 : j = 1 := by
            rcases Nat.lt_or_ge 1 j with w | w
            · exact absurd (hd 1 w) w1
            · omega
          refine ⟨s1 (by omega), ?_, hv.2.1 j1⟩
          rw [j1] at f15; exact f15
      have es : ms M 39 f 39 15 - ms M 39 f 39 16 = nI j := by
        show f 15 - f 16 = nI j
        rw [f15, f16, pk_sub (by omega)]; congr 1; omega
      rw [es]
      refine ⟨fun y => key 1 (fun _ => rfl) (fun w => ?_), fun y => key 4 (fun w => ?_) (fun _ => rfl)⟩
      · have := (nI_le_iff (a := j) (b := 2) (by omega) (by omega)).mp y; omega
      · exact absurd ((nI_le_iff (a := j) (b := 2) (by omega) (by omega)).mpr w) y
end Tokens
