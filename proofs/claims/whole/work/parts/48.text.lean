/-! TEXTS: what a tape tells, without a machine; NUMBERS, as the class takes them -/
abbrev fgr (x : Int32) : Prop := 48 ≤ x.toInt ∧ x.toInt ≤ 57
/-- figures from i on, k at most -/
def cnt (l : Nat → Int32) : Nat → Nat → Nat
  | 0, _ => 0
  | k + 1, i => if fgr (l i) then cnt l k (i + 1) + 1 else 0
def d1 (l : Nat → Int32) (i : Nat) : Int32 := l i - 48
def d2 (l : Nat → Int32) (i : Nat) : Int32 := (l i - 48) * 10 + (l (i + 1) - 48)
/-- a value, its FAULT (0 none), where one is then, or where the FAULT is -/
def rng (x lo hi : Int32) (i n : Nat) : Int32 × Nat × Nat := if wi x lo hi = 0 then (x, 2, i) else (x, 0, i + n)
def tnr (l : Nat → Int32) (lo hi : Int32) (i : Nat) : Int32 × Nat × Nat :=
  if fgr (l i) then (if fgr (l (i + 1)) then (if fgr (l (i + 2)) then (0, 1, i) else rng (d2 l i) lo hi i 2) else rng (d1 l i) lo hi i 1) else (0, 1, i)
/-- a NUMBER, and ; behind it -/
def num (l : Nat → Int32) (lo hi : Int32) (i : Nat) : Int32 × Nat × Nat :=
  if (tnr l lo hi i).2.1 = 0 then (if l (tnr l lo hi i).2.2 = 59 then ((tnr l lo hi i).1, 0, (tnr l lo hi i).2.2 + 1) else ((tnr l lo hi i).1, 1, (tnr l lo hi i).2.2)) else tnr l lo hi i
theorem rng_b (x lo hi : Int32) (i n : Nat) (hn : n ≤ 2) : (rng x lo hi i n).2.1 ≤ 2 ∧ (rng x lo hi i n).2.2 ≤ i + 2 := by
  unfold rng
  by_cases h : wi x lo hi = 0
  · rw [if_pos h]; exact ⟨Nat.le_refl 2, Nat.le_add_right i 2⟩
  · rw [if_neg h]; exact ⟨Nat.zero_le 2, Nat.add_le_add_left hn i⟩
theorem rng_ok {x lo hi : Int32} {i n : Nat} (h : (rng x lo hi i n).2.1 = 0) : (rng x lo hi i n).1 = x ∧ ¬ wi x lo hi = 0 := by
  unfold rng at *
  by_cases q : wi x lo hi = 0
  · rw [if_pos q] at h; exact absurd (show (2 : Nat) = 0 from h) (by decide)
  · rw [if_neg q]; exact ⟨rfl, q⟩
theorem tnr_b (l : Nat → Int32) (lo hi : Int32) (i : Nat) : (tnr l lo hi i).2.1 ≤ 2 ∧ (tnr l lo hi i).2.2 ≤ i + 2 := by
  have b0 : ((0 : Int32), (1 : Nat), i).2.1 ≤ 2 ∧ ((0 : Int32), (1 : Nat), i).2.2 ≤ i + 2 := ⟨Nat.le_succ 1, Nat.le_add_right i 2⟩
  unfold tnr
  split
  · split
    · split
      · exact b0
      · exact rng_b _ _ _ _ _ (by decide)
    · exact rng_b _ _ _ _ _ (by decide)
  · exact b0
theorem tnr_ok {l : Nat → Int32} {lo hi : Int32} {i : Nat} (h : (tnr l lo hi i).2.1 = 0) : ¬ wi (tnr l lo hi i).1 lo hi = 0 := by
  unfold tnr at *
  split at h
  · rename_i h1
    rw [if_pos h1]
    split at h
    · rename_i h2
      rw [if_pos h2]
      split at h
      · exact absurd (show (1 : Nat) = 0 from h) (by decide)
      · rename_i h3
        rw [if_neg h3, (rng_ok h).1]; exact (rng_ok h).2
    · rename_i h2
      rw [if_neg h2, (rng_ok h).1]; exact (rng_ok h).2
  · exact absurd (show (1 : Nat) = 0 from h) (by decide)
theorem num_b (l : Nat → Int32) (lo hi : Int32) (i : Nat) : (num l lo hi i).2.1 ≤ 2 := by
  have b := tnr_b l lo hi i
  unfold num
  split
  · split
    · exact Nat.zero_le 2
    · exact Nat.le_succ 1
  · exact b.1
theorem num_ok {l : Nat → Int32} {lo hi : Int32} {i N : Nat} (hl : ∀ j, N ≤ j → l j = -1) (h : (num l lo hi i).2.1 = 0) : (lo.toInt ≤ (num l lo hi i).1.toInt ∧ (num l lo hi i).1.toInt ≤ hi.toInt) ∧ (num l lo hi i).2.2 ≤ N := by
  unfold num at *
  by_cases z : (tnr l lo hi i).2.1 = 0
  · rw [if_pos z] at h ⊢
    by_cases y : l (tnr l lo hi i).2.2 = 59
    · rw [if_pos y]
      refine ⟨wi_1 (tnr_ok z), ?_⟩
      show (tnr l lo hi i).2.2 + 1 ≤ N
      rcases Nat.lt_or_ge (tnr l lo hi i).2.2 N with q | q
      · exact q
      · rw [hl _ q] at y; exact absurd y (by decide)
    · rw [if_neg y] at h; exact absurd (show (1 : Nat) = 0 from h) (by decide)
  · rw [if_neg z] at h; exact absurd h z
/-- the class's tape -/
def TP (M : Mm) (N : Nat) (l : Nat → Int32) : Prop := M 5 1 = nI N ∧ N ≤ 80 ∧ (∀ i, i < N → M 6 i = l i) ∧ (∀ i, N ≤ i → l i = -1)
section Numbers
variable {M : Mm} {N : Nat} {l : Nat → Int32}
theorem c_letter (h : TP M N l) {j : Nat} (hj : j < 2 ^ 31) : Val (S_Tape_letterAt M (nI j)) (l j) := by
  intro Φ k
  have e0 : (0 : Int32).toInt = 0 := by decide
  have gN := nI_toInt (n := N) (by have := h.2.1; omega)
  have gj := nI_toInt hj
  have h80 := h.2.1
  refine ⟨fun z => ?_, fun _ => ⟨fun z => ?_, fun z => ?_⟩⟩
  · rw [tI_lt, gj, e0] at z; omega
  · rw [h.1, tI_le, gN, gj] at z
    rw [h.2.2.2 j (by omega)] at k
    exact k
  · rw [h.1, tI_le, gN, gj] at z
    refine ⟨vp_in_nI (by omega) (by decide), ?_⟩
    rw [nI_clamp hj, h.2.2.1 j (by omega)]; exact k
theorem c_some (h : TP M N l) (a : Int32) : ∃ x, Val (S_Tape_letterAt M a) x := by
  have e0 : (0 : Int32).toInt = 0 := by decide
  have gN := nI_toInt (n := N) (by have := h.2.1; omega)
  have h80 := h.2.1
  by_cases q : a < 0
  · exact ⟨-1, fun Φ k => ⟨fun _ => k, fun z => absurd q z⟩⟩
  · by_cases q2 : M 5 1 ≤ a
    · exact ⟨-1, fun Φ k => ⟨fun z => absurd z q, fun _ => ⟨fun _ => k, fun z => absurd q2 z⟩⟩⟩
    · refine ⟨M 6 a.toNatClampNeg, fun Φ k => ⟨fun z => absurd z q, fun _ => ⟨fun z => absurd z q2, fun _ => ⟨?_, k⟩⟩⟩⟩
      rw [tI_lt, e0] at q
      rw [h.1, tI_le, gN] at q2
      exact vp_in_iff.mpr ⟨by omega, by show _ < (80 : Int); omega⟩
theorem c_next (h : TP M N l) {i : Nat} (e : M 5 2 = nI i) (hi : i < 2 ^ 31) : Val (S_Tape_next M) (l i) := by
  intro Φ k
  unfold S_Tape_next
  rw [e]
  exact c_letter h hi _ k
theorem c_nextAny (h : TP M N l) : ∃ x, Val (S_Tape_next M) x := by
  obtain ⟨x, hx⟩ := c_some h (M 5 2)
  exact ⟨x, fun Φ k => hx _ k⟩
theorem c_figure (h : TP M N l) {j : Nat} (hj : j < 2 ^ 31) : Val (S_Tape_figureAt M (nI j)) (if fgr (l j) then l j - 48 else -1000000) := by
  intro Φ k
  have e48 : (48 : Int32).toInt = 48 := by decide
  have e57 : (57 : Int32).toInt = 57 := by decide
  refine c_letter h hj _ ⟨fun z => ?_, fun z => ⟨fun z2 => ?_, fun z2 => ?_⟩⟩
  · rw [tI_lt, e48] at z
    rw [if_neg (by omega)] at k; exact k
  · rw [tI_lt, e57] at z2
    rw [if_neg (by omega)] at k; exact k
  · rw [tI_lt, e48] at z
    rw [tI_lt, e57] at z2
    rw [if_pos (by omega)] at k; exact k
theorem fgr_sub {x : Int32} (h : fgr x) : (x - 48).toInt = x.toInt - 48 := by
  have e48 : (48 : Int32).toInt = 48 := by decide
  rw [tI_sub (by omega) (by omega), e48]
theorem fgr_ne {x : Int32} (h : fgr x) : ¬ x - 48 = -1000000 := fun z => by
  have e := fgr_sub h
  rw [z, show (-1000000 : Int32).toInt = -1000000 by decide] at e
  omega
theorem c_figures (h : TP M N l) {i : Nat} (e : M 5 2 = nI i) (hi : i ≤ 100) : Val (S_Tape_figuresHere M) (nI (cnt l 80 i)) := by
  intro Φ k
  refine lp_ex (fun q (x : Int32) => ∃ j, j + q = 80 ∧ x = nI j ∧ cnt l 80 i = j + cnt l q (i + j)) ?_ ?_ (i := 80) ⟨0, rfl, rfl, by rw [Nat.zero_add, Nat.add_zero]⟩
  · rintro x ⟨j, hj, rfl, hc⟩ rec
    obtain rfl : j = 80 := by omega
    have h0 : cnt l 0 (i + 80) = 0 := rfl
    rw [h0, Nat.add_zero] at hc
    rw [hc] at k
    exact ht (by decide) k
  · rintro q x ⟨j, hj, rfl, hc⟩ rec hrec
    have hs : cnt l (q + 1) (i + j) = if fgr (l (i + j)) then cnt l q (i + j + 1) + 1 else 0 := rfl
    rw [D_Tape_figuresHere_2, e, nI_add]
    refine sk (nle 80 (by omega) (by decide)) (c_figure h (by omega) _ ?_)
    by_cases z : fgr (l (i + j))
    · rw [if_pos z]
      rw [hs, if_pos z, Nat.add_assoc i j 1] at hc
      refine sk (fgr_ne z) ?_
      rw [nI_inc]
      exact hrec _ ⟨j + 1, by omega, rfl, by omega⟩
    · rw [if_neg z]
      rw [hs, if_neg z, Nat.add_zero] at hc
      rw [hc] at k
      exact ht rfl k
theorem c_fail (e3 : M 5 3 = 0) (c : Int32) (Φ : Mm → Prop) (k : Φ (ms M 5 (upd (upd (M 5) 3 c) 4 (M 5 2)))) : S_Tape_fail M c Φ := by
  refine ht e3 (fun M2 q2 M3 q3 => ?_)
  have e : mu (mu M 5 3 c) 5 4 (M 5 2) = ms M 5 (upd (upd (M 5) 3 c) 4 (M 5 2)) := mu_ms M 5 4 (upd (M 5) 3 c) (M 5 2)
  rw [q3, q2]
  show Φ (mu (mu M 5 3 c) 5 4 (M 5 2))
  rw [e]; exact k
theorem c_fail0 (e3 : ¬ M 5 3 = 0) (c : Int32) (Φ : Mm → Prop) (k : Φ M) : S_Tape_fail M c Φ := sk e3 k
/-- behind the figures: is the NUMBER as told -/
theorem c_tkFin (h : TP M N l) {i n : Nat} {lo hi x : Int32} (e2 : M 5 2 = nI i) (e3 : M 5 3 = 0) (et : tnr l lo hi i = rng x lo hi i n) (hn : i + n ≤ 200) (Φ : Int32 → Mm → Prop) (k : ∀ f : Nat → Int32, f 1 = nI N → ((tnr l lo hi i).2.1 = 0 → f 2 = nI (tnr l lo hi i).2.2 ∧ f 3 = 0) → (¬ (tnr l lo hi i).2.1 = 0 → f 3 = nI (tnr l lo hi i).2.1 ∧ f 4 = nI (tnr l lo hi i).2.2) → Φ (tnr l lo hi i).1 (ms M 5 f)) : S_within M x lo hi (fun r7 => ((r7 = 0 → S_Tape_fail M 2 (fun M9 => D_Tape_takeNumber_81 Φ (nI n, x, M9))) ∧ (¬ (r7 = 0) → D_Tape_takeNumber_81 Φ (nI n, x, M)))) := by
  rw [et] at k
  unfold rng at k
  refine v_within M _ _ _ _ ⟨fun z => c_fail e3 _ _ (fun M3 q3 => ?_), fun z M3 q3 => ?_⟩
  · rw [if_pos z] at k
    rw [q3, mu_ms]
    exact k _ h.1 (fun y => absurd (show (2 : Nat) = 0 from y) (by decide)) (fun _ => ⟨rfl, e2⟩)
  · rw [if_neg z] at k
    have eM : mu M 5 2 (M 5 2 + nI n) = ms M 5 (upd (M 5) 2 (nI (i + n))) := by rw [e2, nI_add]; rfl
    rw [q3, eM]
    exact k _ h.1 (fun _ => ⟨rfl, e3⟩) (fun y => absurd rfl y)
theorem c_take (h : TP M N l) {i : Nat} {lo hi : Int32} (e2 : M 5 2 = nI i) (e3 : M 5 3 = 0) (hi8 : i ≤ 81) (Φ : Int32 → Mm → Prop) (k : ∀ f : Nat → Int32, f 1 = nI N → ((tnr l lo hi i).2.1 = 0 → f 2 = nI (tnr l lo hi i).2.2 ∧ f 3 = 0) → (¬ (tnr l lo hi i).2.1 = 0 → f 3 = nI (tnr l lo hi i).2.1 ∧ f 4 = nI (tnr l lo hi i).2.2) → Φ (tnr l lo hi i).1 (ms M 5 f)) : S_Tape_takeNumber M lo hi Φ := by
  have c0 : cnt l 80 i = if fgr (l i) then (if fgr (l (i + 1)) then (if fgr (l (i + 2)) then cnt l 77 (i + 3) + 1 else 0) + 1 else 0) + 1 else 0 := rfl
  have bad : tnr l lo hi i = (0, 1, i) → ∀ x, D_Tape_takeNumber_15 Φ (lo, hi, x, M) := by
    intro et x
    rw [et] at k
    refine c_fail e3 _ _ (sk (show ¬ (1 : Int32) = 0 by decide) ?_)
    exact k _ h.1 (fun y => absurd (show (1 : Nat) = 0 from y) (by decide)) (fun _ => ⟨rfl, e2⟩)
  have fig : ∀ j, i + j ≤ 200 → Val (S_Tape_figureAt M (M 5 2 + nI j)) (if fgr (l (i + j)) then l (i + j) - 48 else -1000000) := fun j hj => by
    rw [e2, nI_add]; exact c_figure h (by omega)
  refine c_figures h e2 (by omega) _ ?_
  unfold tnr at bad
  by_cases q1 : fgr (l i)
  · rw [if_pos q1] at c0 bad
    by_cases q2 : fgr (l (i + 1))
    · rw [if_pos q2] at c0 bad
      by_cases q3 : fgr (l (i + 2))
      · rw [if_pos q3] at c0 bad
        have hc : 2 < cnt l 80 i := by omega
        have hc8 : cnt l 80 i < 2 ^ 31 := by
          have : ∀ n j, cnt l n j ≤ n := by
            intro n
            induction n with
            | zero => intro j; exact Nat.le_refl 0
            | succ n ih =>
              intro j
              have hs : cnt l (n + 1) j = if fgr (l j) then cnt l n (j + 1) + 1 else 0 := rfl
              rw [hs]
              have := ih (j + 1)
              split <;> omega
          have := this 80 i
          omega
        exact sk (nI_nlt (a := cnt l 80 i) (b := 1) (by omega) hc8) (sk (nI_ge (a := 2) hc hc8) (bad rfl _))
      · rw [if_neg q3] at c0
        have c2 : cnt l 80 i = 2 := c0
        rw [c2]
        refine sk (by decide) (ht (by decide) (ht e3 ⟨3, ?_⟩))
        have et : tnr l lo hi i = rng (d2 l i) lo hi i 2 := by unfold tnr; rw [if_pos q1, if_pos q2, if_neg q3]
        refine sk (show ¬ nI 2 ≤ (0 : Int32) by decide) (fig 0 (by omega) _ ?_)
        rw [Nat.add_zero, if_pos q1]
        refine sk (show ¬ nI 2 ≤ (0 : Int32) + 1 by decide) (fig 1 (by omega) _ ?_)
        rw [if_pos q2, Int32.zero_mul, Int32.zero_add]
        exact ht (show nI 2 ≤ (0 : Int32) + 1 + 1 by decide) (c_tkFin h e2 e3 et (by omega) Φ k)
    · rw [if_neg q2] at c0
      have c1 : cnt l 80 i = 1 := c0
      rw [c1]
      refine sk (by decide) (ht (by decide) (ht e3 ⟨2, ?_⟩))
      have et : tnr l lo hi i = rng (d1 l i) lo hi i 1 := by unfold tnr; rw [if_pos q1, if_neg q2]
      refine sk (show ¬ nI 1 ≤ (0 : Int32) by decide) (fig 0 (by omega) _ ?_)
      rw [Nat.add_zero, if_pos q1, Int32.zero_mul, Int32.zero_add]
      exact ht (show nI 1 ≤ (0 : Int32) + 1 by decide) (c_tkFin h e2 e3 et (by omega) Φ k)
  · rw [if_neg q1] at c0 bad
    rw [c0]
    exact ht (by decide) (bad rfl _)
theorem c_numB (h : TP M N l) {i : Nat} {lo hi : Int32} (e2 : M 5 2 = nI i) (e3 : M 5 3 = 0) (hi8 : i ≤ 80) (Φ : Int32 → Mm → Prop) (k0 : (num l lo hi (i + 1)).2.1 = 0 → ∀ f : Nat → Int32, f 1 = nI N → f 2 = nI (num l lo hi (i + 1)).2.2 → f 3 = 0 → Φ (num l lo hi (i + 1)).1 (ms M 5 f)) (k1 : ¬ (num l lo hi (i + 1)).2.1 = 0 → ∀ (x : Int32) (f : Nat → Int32), f 1 = nI N → f 3 = nI (num l lo hi (i + 1)).2.1 → f 4 = nI (num l lo hi (i + 1)).2.2 → Φ x (ms M 5 f)) : S_Tape_numberBehind M lo hi Φ := by
  refine ht e3 (fun M2 q2 => ?_)
  have q2' : M2 = ms M 5 (upd (M 5) 2 (nI (i + 1))) := by rw [q2, e2, nI_inc]; rfl
  rw [q2']
  refine c_take (M := ms M 5 (upd (M 5) 2 (nI (i + 1)))) (i := i + 1) ⟨h.1, h.2⟩ rfl e3 (by omega) _ (fun f f1 f0 fb => ?_)
  rw [ms_ms]
  have hT : TP (ms M 5 f) N l := ⟨f1, h.2⟩
  have hb := tnr_b l lo hi (i + 1)
  unfold num at k0 k1
  by_cases z : (tnr l lo hi (i + 1)).2.1 = 0
  · obtain ⟨g2, g3⟩ := f0 z
    rw [if_pos z] at k0 k1
    refine c_next hT (i := (tnr l lo hi (i + 1)).2.2) g2 (by omega) _ ?_
    by_cases y : l (tnr l lo hi (i + 1)).2.2 = 59
    · rw [if_pos y] at k0
      refine ht y (fun M4 q => ?_)
      rw [q, mu_ms]
      refine k0 rfl _ f1 ?_ g3
      show f 2 + 1 = nI ((tnr l lo hi (i + 1)).2.2 + 1)
      rw [g2, nI_inc]
    · rw [if_neg y] at k1
      refine sk y (c_fail (M := ms M 5 f) g3 _ _ (fun M4 q => ?_))
      rw [q, ms_ms, mu_ms]
      exact k1 (fun w => absurd (show (1 : Nat) = 0 from w) (by decide)) _ _ f1 rfl g2
  · obtain ⟨g3, g4⟩ := fb z
    rw [if_neg z] at k1
    have g3n : ¬ ms M 5 f 5 3 = 0 := by
      show ¬ f 3 = 0
      rw [g3]; exact nI_ne0 (by omega) (by omega)
    obtain ⟨x, hx⟩ := c_nextAny hT
    refine hx _ ⟨fun y M4 q => ?_, fun y => c_fail0 (M := ms M 5 f) g3n _ _ (fun M4 q => ?_)⟩
    · rw [q, mu_ms]; exact k1 z _ _ f1 g3 g4
    · rw [q, mu_ms]; exact k1 z _ _ f1 g3 g4
theorem c_numX (e3 : ¬ M 5 3 = 0) (lo hi : Int32) (Φ : Int32 → Mm → Prop) (k : Φ 0 M) : S_Tape_numberBehind M lo hi Φ := sk e3 k
end Numbers
