/-! PLAN, LEAST: the numbers -/
def mn (f : Nat → Int32) : Nat → Int32
  | 0 => 1000000000
  | k + 1 => if mn f k ≤ f k then mn f k else f k
/-- the first that is so few -/
def an (f : Nat → Int32) : Nat → Nat
  | 0 => 0
  | k + 1 => if f k < mn f k then k else an f k
def fr (f : Nat → Int32) (x : Int32) : Nat → Nat → Int32
  | _, 0 => 0
  | j, m + 1 => if f j = x then nI j else fr f x (j + 1) m
theorem far_i : (1000000000 : Int32).toInt = 1000000000 := by decide
theorem mn_far (f : Nat → Int32) : ∀ k, (mn f k).toInt ≤ 1000000000
  | 0 => by unfold mn; decide
  | k + 1 => by
    have ih := mn_far f k
    unfold mn
    by_cases h : mn f k ≤ f k
    · rw [if_pos h]; exact ih
    · rw [if_neg h]; rw [tI_le] at h; omega
theorem mn_le (f : Nat → Int32) : ∀ k j, j < k → (mn f k).toInt ≤ (f j).toInt
  | 0, j, h => absurd h (by omega)
  | k + 1, j, h => by
    have ih := mn_le f k
    unfold mn
    by_cases q : mn f k ≤ f k
    · rw [if_pos q]; rw [tI_le] at q
      by_cases e : j = k
      · rw [e]; exact q
      · exact ih j (by omega)
    · rw [if_neg q]; rw [tI_le] at q
      by_cases e : j = k
      · rw [e]; exact Int.le_refl _
      · have := ih j (by omega); omega
theorem mn_ge (f : Nat → Int32) {c : Int} (hc : c ≤ 1000000000) : ∀ k, (∀ j, j < k → c ≤ (f j).toInt) → c ≤ (mn f k).toInt
  | 0, _ => by unfold mn; rw [far_i]; exact hc
  | k + 1, h => by
    have ih := mn_ge f hc k (fun j hj => h j (by omega))
    unfold mn
    split
    · exact ih
    · exact h k (by omega)
theorem mn_ex (f : Nat → Int32) {c : Int} (hc : c < 1000000000) (k : Nat) : (mn f k).toInt ≤ c ↔ ∃ i, i < k ∧ (f i).toInt ≤ c := by
  constructor
  · intro h
    refine Classical.byContradiction fun n => ?_
    have := mn_ge f (c := c + 1) (by omega) k (fun j hj => by
      have : ¬ (f j).toInt ≤ c := fun q => n ⟨j, hj, q⟩
      omega)
    omega
  · rintro ⟨i, hi, h⟩
    have := mn_le f k i hi
    omega
theorem an_at (f : Nat → Int32) : ∀ k, mn f k < 1000000000 → an f k < k ∧ f (an f k) = mn f k ∧ ∀ j, j < an f k → ¬ f j = mn f k := by
  intro k
  induction k with
  | zero => intro h; rw [mn, tI_lt] at h; omega
  | succ k ih =>
    intro h
    unfold an
    by_cases q : f k < mn f k
    · rw [if_pos q]
      have e : mn f (k + 1) = f k := by
        show (if mn f k ≤ f k then mn f k else f k) = f k
        rw [if_neg (by rw [tI_le]; rw [tI_lt] at q; omega)]
      rw [e]
      refine ⟨by omega, rfl, fun j hj z => ?_⟩
      have := mn_le f k j hj
      rw [tI_lt] at q
      rw [z] at this; omega
    · rw [if_neg q]
      have e : mn f (k + 1) = mn f k := by
        show (if mn f k ≤ f k then mn f k else f k) = mn f k
        rw [if_pos (by rw [tI_le]; rw [tI_lt] at q; omega)]
      rw [e] at h ⊢
      have ih := ih h
      exact ⟨by omega, ih.2.1, ih.2.2⟩
theorem fr_at (f : Nat → Int32) (x : Int32) : ∀ m j i, j ≤ i → i < j + m → f i = x → (∀ l, j ≤ l → l < i → ¬ f l = x) → fr f x j m = nI i
  | 0, j, i, h1, h2, _, _ => absurd h2 (by omega)
  | m + 1, j, i, h1, h2, h3, h4 => by
    unfold fr
    by_cases e : j = i
    · rw [if_pos (by rw [e]; exact h3), e]
    · rw [if_neg (h4 j (by omega) (by omega))]
      exact fr_at f x m (j + 1) i (by omega) (by omega) h3 (fun l h5 h6 => h4 l (by omega) h6)
theorem fr_an (f : Nat → Int32) (h : mn f 18 < 1000000000) : fr f (mn f 18) 0 18 = nI (an f 18) := by
  obtain ⟨h1, h2, h3⟩ := an_at f 18 h
  exact fr_at f _ 18 0 (an f 18) (by omega) (by omega) h2 (fun l _ h6 => h3 l h6)
theorem mn_congr {f g : Nat → Int32} : ∀ k, (∀ j, j < k → f j = g j) → mn f k = mn g k
  | 0, _ => rfl
  | k + 1, h => by
    have e1 := mn_congr k (fun j hj => h j (by omega))
    have e2 := h k (by omega)
    unfold mn
    rw [e1, e2]
theorem an_congr {f g : Nat → Int32} : ∀ k, (∀ j, j < k → f j = g j) → an f k = an g k
  | 0, _ => rfl
  | k + 1, h => by
    have e1 := an_congr k (fun j hj => h j (by omega))
    have e2 := h k (by omega)
    have e3 := mn_congr k (fun j hj => h j (by omega))
    unfold an
    rw [e1, e2, e3]
theorem fr_congr {f g : Nat → Int32} (x : Int32) : ∀ m j, (∀ i, j ≤ i → i < j + m → f i = g i) → fr f x j m = fr g x j m
  | 0, _, _ => rfl
  | m + 1, j, h => by
    have e1 := fr_congr x m (j + 1) (fun i h1 h2 => h i (by omega) (by omega))
    have e2 := h j (by omega) (by omega)
    unfold fr
    rw [e1, e2]
/-- a PIECE ridden in a GEAR behind SHIFTS from another one, and all behind it; too much -/
def cb (v : Nat → Int32) (s : Int32) (p f t : Nat) (r : Nat → Int32) : Int32 := if ig v (nI t) = 0 ∨ bl v (nI p) (f % 6) (t % 6) = true ∨ s < ldv v (t / 6) (t % 6) (v (23 + p)) ∨ ¬ r t < 1000000000 then 1000000000 else rcst (nI f) (nI t) + su v (f % 6) (t % 6) + tnv v (t / 6) (t % 6) + r t
/-- m PIECES are left -/
def rs (v : Nat → Int32) (s : Int32) (n : Nat) : Nat → Nat → Int32
  | 0, _ => 0
  | m + 1, g => if ig v (nI g) = 0 then 1000000000 else mn (fun t => cb v s (n - (m + 1)) g t (rs v s n m)) 18
theorem rs_at (v : Nat → Int32) (s : Int32) {n p : Nat} (h : p < n) (g : Nat) : rs v s n (n - p) g = if ig v (nI g) = 0 then 1000000000 else mn (fun t => cb v s p g t (rs v s n (n - (p + 1)))) 18 := by
  obtain ⟨m, rfl⟩ : ∃ m, n = p + m + 1 := ⟨n - p - 1, by omega⟩
  have e1 : p + m + 1 - p = m + 1 := by omega
  have e2 : p + m + 1 - (p + 1) = m := by omega
  have e3 : p + m + 1 - (m + 1) = p := by omega
  rw [e1, e2, rs, e3]
theorem rs_0 (v : Nat → Int32) (s : Int32) (n g : Nat) : rs v s n (n - n) g = 0 := by
  rw [show n - n = 0 by omega, rs]
theorem rcst_b0 : ∀ a : Fin 18, ∀ b : Fin 18, 0 ≤ (rcst (nI a.val) (nI b.val)).toInt ∧ (rcst (nI a.val) (nI b.val)).toInt ≤ 10 := by decide +kernel
theorem rcst_b {a b : Nat} (ha : a < 18) (hb : b < 18) : 0 ≤ (rcst (nI a) (nI b)).toInt ∧ (rcst (nI a) (nI b)).toInt ≤ 10 := rcst_b0 ⟨a, ha⟩ ⟨b, hb⟩
/-- too much, or not above -/
def BR (b : Int) (x : Int32) : Prop := x = 1000000000 ∨ (0 ≤ x.toInt ∧ x.toInt ≤ b)
theorem BR.lt {b : Int} {x : Int32} (h : BR b x) (hb : b < 1000000000) : ¬ x = 1000000000 → x < 1000000000 := fun n => by
  rcases h with h | h
  · exact absurd h n
  · rw [tI_lt, far_i]; omega
theorem BR.ne {b : Int} {x : Int32} (h : BR b x) (hb : b < 1000000000) (hx : x < 1000000000) : 0 ≤ x.toInt ∧ x.toInt ≤ b := by
  rcases h with h | h
  · rw [h, tI_lt] at hx; omega
  · exact h
theorem cb_sum {v : Nat → Int32} (hV : VB v) {s : Int32} {p f t : Nat} {r : Nat → Int32} {b : Int} (hf : f < 18) (ht : t < 18) (hb : b ≤ 10000) (hr : BR b (r t)) (h : ¬ (ig v (nI t) = 0 ∨ bl v (nI p) (f % 6) (t % 6) = true ∨ s < ldv v (t / 6) (t % 6) (v (23 + p)) ∨ ¬ r t < 1000000000)) : 0 ≤ (rcst (nI f) (nI t) + su v (f % 6) (t % 6) + tnv v (t / 6) (t % 6) + r t).toInt ∧ (rcst (nI f) (nI t) + su v (f % 6) (t % 6) + tnv v (t / 6) (t % 6) + r t).toInt ≤ 279 + b := by
  have hg : ¬ ig v (nI t) = 0 := fun z => h (Or.inl z)
  have hl : r t < 1000000000 := Classical.byContradiction fun z => h (Or.inr (Or.inr (Or.inr z)))
  have q := hr.ne (by omega) hl
  obtain ⟨q1, q2⟩ := ig_nI ht hg
  have tb := tn_bnd hV q1 q2
  have sb := su_bnd v (f := f % 6) (t := t % 6) (by omega) (by omega)
  have rb := rcst_b hf ht
  have e1 : (rcst (nI f) (nI t) + su v (f % 6) (t % 6)).toInt = (rcst (nI f) (nI t)).toInt + (su v (f % 6) (t % 6)).toInt := tI_add (by omega) (by omega)
  have e2 : (rcst (nI f) (nI t) + su v (f % 6) (t % 6) + tnv v (t / 6) (t % 6)).toInt = (rcst (nI f) (nI t)).toInt + (su v (f % 6) (t % 6)).toInt + (tnv v (t / 6) (t % 6)).toInt := by rw [tI_add (by omega) (by omega), e1]
  rw [tI_add (by omega) (by omega), e2]
  omega
theorem cb_br {v : Nat → Int32} (hV : VB v) {s : Int32} {p f t : Nat} {r : Nat → Int32} {b : Int} (hf : f < 18) (ht : t < 18) (hb : b ≤ 10000) (hr : BR b (r t)) : BR (279 + b) (cb v s p f t r) := by
  unfold cb
  by_cases h : ig v (nI t) = 0 ∨ bl v (nI p) (f % 6) (t % 6) = true ∨ s < ldv v (t / 6) (t % 6) (v (23 + p)) ∨ ¬ r t < 1000000000
  · rw [if_pos h]; exact Or.inl rfl
  · rw [if_neg h]; exact Or.inr (cb_sum hV hf ht hb hr h)
theorem cb_lt {v : Nat → Int32} (hV : VB v) {s : Int32} {p f t : Nat} {r : Nat → Int32} {b : Int} (hf : f < 18) (ht : t < 18) (hb : b ≤ 10000) (hr : BR b (r t)) : cb v s p f t r < 1000000000 ↔ (¬ ig v (nI t) = 0 ∧ ¬ bl v (nI p) (f % 6) (t % 6) = true ∧ ¬ s < ldv v (t / 6) (t % 6) (v (23 + p)) ∧ r t < 1000000000) := by
  unfold cb
  by_cases h : ig v (nI t) = 0 ∨ bl v (nI p) (f % 6) (t % 6) = true ∨ s < ldv v (t / 6) (t % 6) (v (23 + p)) ∨ ¬ r t < 1000000000
  · rw [if_pos h]
    constructor
    · intro z; exact absurd z (by decide)
    · rintro ⟨z1, z2, z3, z4⟩
      rcases h with h | h | h | h
      · exact absurd h z1
      · exact absurd h z2
      · exact absurd h z3
      · exact absurd z4 h
  · rw [if_neg h]
    have := cb_sum hV hf ht hb hr h
    constructor
    · intro _
      exact ⟨fun z => h (Or.inl z), fun z => h (Or.inr (Or.inl z)), fun z => h (Or.inr (Or.inr (Or.inl z))), Classical.byContradiction fun z => h (Or.inr (Or.inr (Or.inr z)))⟩
    · intro _
      rw [tI_lt, far_i]; omega
theorem mn_br {f : Nat → Int32} {b : Int} : ∀ k, (∀ j, j < k → BR b (f j)) → BR b (mn f k)
  | 0, _ => Or.inl rfl
  | k + 1, h => by
    have ih := mn_br k (fun j hj => h j (by omega))
    unfold mn
    split
    · exact ih
    · exact h k (by omega)
theorem rs_br {v : Nat → Int32} (hV : VB v) (s : Int32) (n : Nat) : ∀ m g : Nat, m ≤ 6 → g < 18 → BR (279 * (m : Int)) (rs v s n m g)
  | 0, g, _, _ => Or.inr ⟨by unfold rs; decide, by unfold rs; decide⟩
  | m + 1, g, hm, hg => by
    unfold rs
    split
    · exact Or.inl rfl
    · refine mn_br 18 (fun j hj => ?_)
      have := cb_br hV (s := s) (p := n - (m + 1)) (f := g) (t := j) (r := rs v s n m) hg hj (by omega) (rs_br hV s n m j (by omega) hj)
      rw [show (279 : Int) * ((m + 1 : Nat) : Int) = 279 + 279 * (m : Int) by omega]
      exact this
theorem cb_congr (v : Nat → Int32) (s : Int32) (p f t : Nat) {r r' : Nat → Int32} (h : r t = r' t) : cb v s p f t r = cb v s p f t r' := by unfold cb; rw [h]
/-- the GEARS of the PLAN -/
def pth (v : Nat → Int32) (s : Int32) (n a g : Nat) : Nat → Nat
  | 0 => g
  | j + 1 => an (fun t => cb v s (a + j) (pth v s n a g j) t (rs v s n (n - (a + j + 1)))) 18
theorem pth_ok {v : Nat → Int32} (hV : VB v) {s : Int32} {n a g : Nat} (hn : n ≤ 6) (hg : g < 18) (hi : ¬ ig v (nI g) = 0) (h : rs v s n (n - a) g < 1000000000) : ∀ j, a + j ≤ n → pth v s n a g j < 18 ∧ ¬ ig v (nI (pth v s n a g j)) = 0 ∧ rs v s n (n - (a + j)) (pth v s n a g j) < 1000000000
  | 0, _ => ⟨hg, hi, h⟩
  | j + 1, hj => by
    obtain ⟨i1, i2, i3⟩ := pth_ok hV hn hg hi h j (by omega)
    rw [rs_at v s (by omega), if_neg i2] at i3
    obtain ⟨k1, k2, k3⟩ := an_at _ 18 i3
    have hb := rs_br hV s n (n - (a + j + 1)) (pth v s n a g (j + 1)) (by omega) k1
    rw [← k2] at i3
    have := (cb_lt hV i1 k1 (by omega) hb).mp i3
    exact ⟨k1, this.1, this.2.2.2⟩
/-- STRENGTH that is needed -/
def mxv (a b : Int32) : Int32 := if a < b then b else a
theorem mxv_i (a b : Int32) (c : Int) : (mxv a b).toInt ≤ c ↔ (a.toInt ≤ c ∧ b.toInt ≤ c) := by
  unfold mxv
  by_cases h : a < b
  · rw [if_pos h]; rw [tI_lt] at h; omega
  · rw [if_neg h]; rw [tI_lt] at h; omega
def nd (v : Nat → Int32) (p f t : Nat) (r : Nat → Int32) : Int32 := if ig v (nI t) = 0 ∨ bl v (nI p) (f % 6) (t % 6) = true then 1000000000 else mxv (ldv v (t / 6) (t % 6) (v (23 + p))) (r t)
def sn (v : Nat → Int32) (n : Nat) : Nat → Nat → Int32
  | 0, _ => 1
  | m + 1, g => mn (fun t => nd v (n - (m + 1)) g t (sn v n m)) 18
theorem sn_at (v : Nat → Int32) {n p : Nat} (h : p < n) (g : Nat) : sn v n (n - p) g = mn (fun t => nd v p g t (sn v n (n - (p + 1)))) 18 := by
  obtain ⟨m, rfl⟩ : ∃ m, n = p + m + 1 := ⟨n - p - 1, by omega⟩
  have e1 : p + m + 1 - p = m + 1 := by omega
  have e2 : p + m + 1 - (p + 1) = m := by omega
  have e3 : p + m + 1 - (m + 1) = p := by omega
  rw [e1, e2, sn, e3]
theorem sn_pos (v : Nat → Int32) (n : Nat) : ∀ m g, 1 ≤ (sn v n m g).toInt
  | 0, g => by unfold sn; decide
  | m + 1, g => by
    unfold sn
    refine mn_ge _ (by omega) 18 (fun j _ => ?_)
    show 1 ≤ (nd v (n - (m + 1)) g j (sn v n m)).toInt
    unfold nd
    split
    · rw [far_i]; omega
    · have ih := sn_pos v n m j
      unfold mxv
      split
      · exact ih
      · rename_i z; rw [tI_lt] at z; omega
theorem sn_rs {v : Nat → Int32} (hV : VB v) {s : Int32} (hs0 : 1 ≤ s.toInt) (hs : s.toInt ≤ 99) (n : Nat) : ∀ m g, m ≤ 6 → g < 18 → ¬ ig v (nI g) = 0 → (rs v s n m g < 1000000000 ↔ (sn v n m g).toInt ≤ s.toInt)
  | 0, g, _, _, _ => by
    unfold rs sn
    rw [show (1 : Int32).toInt = 1 by decide]
    exact ⟨fun _ => hs0, fun _ => by decide⟩
  | m + 1, g, hm, hg, hi => by
    unfold rs sn
    rw [if_neg hi, mn_ex _ (by omega), tI_lt, far_i, show ∀ x : Int, x < 1000000000 ↔ x ≤ 999999999 from fun x => by omega, mn_ex _ (by omega)]
    have key : ∀ t, t < 18 → ((cb v s (n - (m + 1)) g t (rs v s n m)).toInt ≤ 999999999 ↔ (nd v (n - (m + 1)) g t (sn v n m)).toInt ≤ s.toInt) := by
      intro t ht
      have hb := rs_br hV s n m t (by omega) ht
      have h1 := cb_lt hV (s := s) (p := n - (m + 1)) hg ht (by omega) hb
      rw [tI_lt, far_i] at h1
      unfold nd
      by_cases q : ig v (nI t) = 0 ∨ bl v (nI (n - (m + 1))) (g % 6) (t % 6) = true
      · rw [if_pos q, far_i]
        constructor
        · intro z
          have := h1.mp (by omega)
          rcases q with q | q
          · exact absurd q this.1
          · exact absurd q this.2.1
        · intro z; omega
      · have q1 : ¬ ig v (nI t) = 0 := fun z => q (Or.inl z)
        have q2 : ¬ bl v (nI (n - (m + 1))) (g % 6) (t % 6) = true := fun z => q (Or.inr z)
        rw [if_neg q, mxv_i, ← sn_rs hV hs0 hs n m t (by omega) ht q1]
        constructor
        · intro z
          have z := h1.mp (by omega)
          refine ⟨?_, z.2.2.2⟩
          have := z.2.2.1
          rw [tI_lt] at this; omega
        · rintro ⟨z1, z2⟩
          have := h1.mpr ⟨q1, q2, by rw [tI_lt]; omega, z2⟩
          omega
    constructor
    · rintro ⟨i, hi, h⟩; exact ⟨i, hi, (key i hi).mp h⟩
    · rintro ⟨i, hi, h⟩; exact ⟨i, hi, (key i hi).mpr h⟩
