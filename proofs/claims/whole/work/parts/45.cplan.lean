/-! PLAN, LEAST: the class: what SHIFTS cost, kept in a table; PIECES and GEARS -/
theorem mlv_par (v : Nat → Int32) (c : Nat) {p : Nat} (hp : p < 2 ^ 31) : mlv v c (nI p) = mlv v c (nI (p % 2)) := by
  have e1 : irm (nI p) 2 = nI (p % 2) := irm_nI (b := 2) hp (by decide) (by decide)
  have e2 : irm (nI (p % 2)) 2 = nI (p % 2) := by
    have := irm_nI (a := p % 2) (b := 2) (by omega) (by decide) (by decide)
    rw [Nat.mod_mod] at this
    exact this
  unfold mlv
  rw [e1, e2]
theorem blk_par (v : Nat → Int32) {p : Nat} (hp : p < 2 ^ 31) (up : Bool) : ∀ n c, blk v (nI p) up n c = blk v (nI (p % 2)) up n c
  | 0, _ => rfl
  | n + 1, c => by
    show ((mlv v c (nI p) == 0) || blk v (nI p) up n (nx up c)) = ((mlv v c (nI (p % 2)) == 0) || blk v (nI (p % 2)) up n (nx up c))
    rw [blk_par v hp up n, ← mlv_par v c hp]
theorem bl_par (v : Nat → Int32) {p : Nat} (hp : p < 2 ^ 31) (f t : Nat) : bl v (nI p) f t = bl v (nI (p % 2)) f t := blk_par v hp _ _ _
def cix (p f t : Nat) : Nat := ((p % 2) * 6 + f % 6) * 6 + t % 6
theorem cix_lt (p f t : Nat) : cix p f t < 72 := by unfold cix; omega
theorem cix_mod (p f t : Nat) : cix p f t = cix (p % 2) (f % 6) (t % 6) := by unfold cix; omega
theorem cp_ix {p f t : Nat} (hp : p < 2 ^ 31) (hf : f < 2 ^ 31) (ht : t < 2 ^ 31) : ((((irm (nI p) 2) * 6) + (irm (nI f) 6)) * 6) + (irm (nI t) 6) = nI (cix p f t) := by
  have e1 : irm (nI p) 2 = nI (p % 2) := irm_nI (b := 2) hp (by decide) (by decide)
  have e2 : irm (nI f) 6 = nI (f % 6) := irm_nI (b := 6) hf (by decide) (by decide)
  have e3 : irm (nI t) 6 = nI (t % 6) := irm_nI (b := 6) ht (by decide) (by decide)
  rw [e1, e2, e3, show (6 : Int32) = nI 6 from rfl, pk_mul, nI_add, pk_mul, nI_add]
  rfl
theorem v_costPlace (M : Mm) {p f t : Nat} (hp : p < 2 ^ 31) (hf : f < 2 ^ 31) (hlt : t < 2 ^ 31) : Val (S_Plan_costPlace M (nI p) (nI f) (nI t)) (nI (cix p f t)) := by
  intro Φ h
  unfold S_Plan_costPlace
  rw [cp_ix hp hf hlt]
  exact h
def cv (v : Nat → Int32) (q f t : Nat) : Int32 := if bl v (nI q) f t then -1000000 else su v f t
/-- the table is told as far as k -/
def CD (v : Nat → Int32) (m : Nat) (C : Nat → Int32) (k : Nat) : Prop := ∀ q f t, q < 2 → f < m → t < m → cix q f t < k → C (cix q f t) = cv v q f t
section Learn
variable {M : Mm} {v : Nat → Int32}
theorem v_lcIn (hR : RelB (M 7) (M 8) (M 9) (M 10) (M 11) (M 12) v) {m : Nat} (e2 : v 2 = nI m) (hm : m ≤ 6) {q f : Nat} (hq : q < 2) (hf : f < m) {C0 : Nat → Int32} (hC : CD v m C0 (36 * q + 6 * f)) {Φ : Mm → Prop} {rec2 : Int32 × Mm → Prop} {rec9 : Int32 × Int32 × Mm → Prop} (k : ∀ C, CD v m C (36 * q + 6 * (f + 1)) → rec9 (nI q, nI f + 1, ms M 35 C)) : ∃ n, lp (D_Plan_learnCosts_20 Φ rec2 rec9) n (nI q, nI f, 0, ms M 35 C0) := by
  have c2 : ∀ C, ms M 35 C 7 2 = nI m := fun C => by rw [← e2]; exact hR.1.2.1
  have t2 : (v 2).toInt = m := by rw [e2]; exact nI_toInt (by omega)
  refine lp_ex (fun i (a : Int32 × Int32 × Int32 × Mm) => ∃ t C, t + i = m ∧ a = (nI q, nI f, nI t, ms M 35 C) ∧ CD v m C (36 * q + 6 * f + t)) ?_ ?_ (i := m) ⟨0, C0, by omega, rfl, hC⟩
  · rintro a ⟨t, C, hti, rfl, h1⟩ rec
    obtain rfl : t = m := by omega
    rw [D_Plan_learnCosts_20, c2]
    refine ht (nI_le (Nat.le_refl _) (by omega)) (k C ?_)
    intro q' f' t' a1 a2 a3 a4
    exact h1 q' f' t' a1 a2 a3 (by unfold cix at *; omega)
  · rintro i a ⟨t, C, hti, rfl, h1⟩ rec hrec
    rw [D_Plan_learnCosts_20, c2]
    refine sk (nle m (by omega) (by omega)) (v_costPlace _ (by omega) (by omega) (by omega) _ ?_)
    refine v_cogCost (k := 7) (M := ms M 35 C) (v := v) (fun c hc => (hR.2.2.1 c hc).1) (f := f) (t := t) (by omega) (by omega) (by omega) (by omega) (nI q) _ ?_
    rw [nI_clamp (by have := cix_lt q f t; omega)]
    refine ⟨vp_in_nI (cix_lt q f t) (by decide), fun M7 e7 => hrec _ ⟨t + 1, upd C (cix q f t) (cv v q f t), by omega, ?_, ?_⟩⟩
    · rw [e7, mu_ms, nI_inc]; rfl
    · intro q' f' t' a1 a2 a3 a4
      by_cases e : cix q' f' t' = cix q f t
      · have hh : q' = q ∧ f' = f ∧ t' = t := by unfold cix at e; omega
        rw [hh.1, hh.2.1, hh.2.2, pk_us]
      · rw [pk_un e]; exact h1 q' f' t' a1 a2 a3 (by unfold cix at *; omega)
theorem v_lcMid (hR : RelB (M 7) (M 8) (M 9) (M 10) (M 11) (M 12) v) {m : Nat} (e2 : v 2 = nI m) (hm : m ≤ 6) {q : Nat} (hq : q < 2) {C0 : Nat → Int32} (hC : CD v m C0 (36 * q)) {Φ : Mm → Prop} {rec2 : Int32 × Mm → Prop} (k : ∀ C, CD v m C (36 * (q + 1)) → rec2 (nI q + 1, ms M 35 C)) : ∃ n, lp (D_Plan_learnCosts_9 Φ rec2) n (nI q, 0, ms M 35 C0) := by
  have c2 : ∀ C, ms M 35 C 7 2 = nI m := fun C => by rw [← e2]; exact hR.1.2.1
  refine lp_ex (fun i (a : Int32 × Int32 × Mm) => ∃ f C, f + i = m ∧ a = (nI q, nI f, ms M 35 C) ∧ CD v m C (36 * q + 6 * f)) ?_ ?_ (i := m) ⟨0, C0, by omega, rfl, hC⟩
  · rintro a ⟨f, C, hti, rfl, h1⟩ rec
    obtain rfl : f = m := by omega
    rw [D_Plan_learnCosts_9, c2]
    refine ht (nI_le (Nat.le_refl _) (by omega)) (k C ?_)
    intro q' f' t' a1 a2 a3 a4
    exact h1 q' f' t' a1 a2 a3 (by unfold cix at *; omega)
  · rintro i a ⟨f, C, hti, rfl, h1⟩ rec hrec
    rw [D_Plan_learnCosts_9, c2]
    exact sk (nle m (by omega) (by omega)) (v_lcIn hR e2 hm hq (by omega) h1 (fun C' h' => hrec _ ⟨f + 1, C', by omega, by rw [nI_inc], h'⟩))
theorem v_learn (hR : RelB (M 7) (M 8) (M 9) (M 10) (M 11) (M 12) v) {m : Nat} (e2 : v 2 = nI m) (hm : m ≤ 6) (Φ : Mm → Prop) (k : ∀ C, CD v m C 72 → Φ (ms M 35 C)) : S_Plan_learnCosts M Φ := by
  refine lp_ex (fun i (a : Int32 × Mm) => ∃ q C, q + i = 2 ∧ a = (nI q, ms M 35 C) ∧ CD v m C (36 * q)) ?_ ?_ (i := 2) ⟨0, M 35, by omega, by rw [ms_self]; rfl, fun q f t _ _ _ h => absurd h (by omega)⟩
  · rintro a ⟨q, C, hti, rfl, h1⟩ rec
    obtain rfl : q = 2 := by omega
    exact ht (by decide) (k C h1)
  · rintro i a ⟨q, C, hti, rfl, h1⟩ rec hrec
    exact sk (nle 2 (by omega) (by decide)) (v_lcMid hR e2 hm (by omega) h1 (fun C' h' => hrec _ ⟨q + 1, C', by omega, by rw [nI_inc], h'⟩))
/-- what stands in the table of a GEAR and a GEAR -/
theorem cost_at (hV : VB v) {m : Nat} (e2 : v 2 = nI m) (hm : m ≤ 6) {C : Nat → Int32} (hC : CD v m C 72) {p f t : Nat} (hp : p < 2 ^ 31) (hf : f < 18) (hlt : t < 18) (hif : ¬ ig v (nI f) = 0) (hit : ¬ ig v (nI t) = 0) : C (cix p f t) = if bl v (nI p) (f % 6) (t % 6) then -1000000 else su v (f % 6) (t % 6) := by
  have t2 : (v 2).toInt = m := by rw [e2]; exact nI_toInt (by omega)
  have h1 := (ig_nI hf hif).2
  have h2 := (ig_nI hlt hit).2
  rw [cix_mod, hC (p % 2) (f % 6) (t % 6) (by omega) (by omega) (by omega) (by rw [← cix_mod]; exact cix_lt p f t), bl_par v hp]
  rfl
theorem su_ne (v : Nat → Int32) {f t : Nat} (hf : f < 6) (hlt : t < 6) : ¬ su v f t = -1000000 := fun z => by
  have sb := su_bnd v hf hlt
  rw [z, show (-1000000 : Int32).toInt = -1000000 by decide] at sb
  omega
theorem nI_nn {j : Nat} (h : j < 2 ^ 31) : ¬ nI j = -1000000 := fun z => by
  have g := nI_toInt h
  rw [z, show (-1000000 : Int32).toInt = -1000000 by decide] at g
  omega
/-- a PIECE ridden in a GEAR, and all behind it; too much -/
def nt (v : Nat → Int32) (s : Int32) (p t : Nat) (r : Nat → Int32) : Int32 := if ig v (nI t) = 0 ∨ s < ldv v (t / 6) (t % 6) (v (23 + p)) ∨ ¬ r t < 1000000000 then 1000000000 else tnv v (t / 6) (t % 6) + r t
theorem nt_ne (hV : VB v) {t : Nat} {r : Nat → Int32} {b : Int} (hlt : t < 18) (hb : b ≤ 10000) (hr : BR b (r t)) (hi : ¬ ig v (nI t) = 0) (hl : r t < 1000000000) : ¬ tnv v (t / 6) (t % 6) + r t = 1000000000 := fun z => by
  have q := hr.ne (by omega) hl
  obtain ⟨q1, q2⟩ := ig_nI hlt hi
  have tb := tn_bnd hV q1 q2
  have e : (tnv v (t / 6) (t % 6) + r t).toInt = (tnv v (t / 6) (t % 6)).toInt + (r t).toInt := tI_add (by omega) (by omega)
  rw [z, far_i] at e
  omega
theorem v_turnsByP (hV : VB v) {m : Nat} (e2 : v 2 = nI m) (hm : m ≤ 6) (hC : CD v m (M 35) 72) {s : Int32} {p f t : Nat} (hp : p < 6) (hf : f < 18) (hlt : t < 18) (hif : ¬ ig v (nI f) = 0) {r : Nat → Int32} {b : Int} (hb : b ≤ 10000) (hr : BR b (r t)) (hN : M 36 (18 * p + t) = nt v s p t r) : Val (S_Plan_turnsBy M (nI p) (nI f) (nI t)) (cb v s p f t r) := by
  intro Φ h
  unfold S_Plan_turnsBy
  rw [ix18r, nI_clamp (by omega), hN]
  refine ⟨vp_in_nI (by omega) (by decide), ?_⟩
  unfold nt
  unfold cb at h
  by_cases hz : ig v (nI t) = 0 ∨ s < ldv v (t / 6) (t % 6) (v (23 + p)) ∨ ¬ r t < 1000000000
  · rw [if_pos hz]
    rw [if_pos (hz.elim (fun z => Or.inl z) (fun z => Or.inr (Or.inr z)))] at h
    exact ht rfl h
  · have hit : ¬ ig v (nI t) = 0 := fun z => hz (Or.inl z)
    have hl : r t < 1000000000 := Classical.byContradiction fun z => hz (Or.inr (Or.inr z))
    rw [if_neg hz]
    refine sk (nt_ne hV hlt hb hr hit hl) (v_costPlace _ (by omega) (by omega) (by omega) _ ?_)
    rw [nI_clamp (by have := cix_lt p f t; omega), cost_at hV e2 hm hC (by omega) hf hlt hif hit]
    refine ⟨vp_in_nI (cix_lt p f t) (by decide), ?_⟩
    by_cases hbl : bl v (nI p) (f % 6) (t % 6) = true
    · rw [if_pos hbl]
      rw [if_pos (Or.inr (Or.inl hbl))] at h
      exact ht rfl h
    · rw [if_neg hbl]
      rw [if_neg (fun z => z.elim hit (fun z => z.elim hbl (fun z => hz (Or.inr z))))] at h
      refine sk (su_ne v (by omega) (by omega)) (v_ringCost _ _ _ ?_)
      have e : rcst (nI f) (nI t) + su v (f % 6) (t % 6) + tnv v (t / 6) (t % 6) + r t = su v (f % 6) (t % 6) + rcst (nI f) (nI t) + (tnv v (t / 6) (t % 6) + r t) := by
        rw [Int32.add_comm (rcst (nI f) (nI t)) (su v (f % 6) (t % 6)), Int32.add_assoc]
      rw [e] at h
      exact h
end Learn
/-- the first GEAR that is best; none -/
def bg (f : Nat → Int32) : Nat → Int32
  | 0 => -1000000
  | k + 1 => if f k < mn f k then nI k else bg f k
theorem mn_s1 {f : Nat → Int32} {k : Nat} (q : f k < mn f k) : mn f (k + 1) = f k := by
  show (if mn f k ≤ f k then mn f k else f k) = f k
  rw [if_neg (by rw [tI_le]; rw [tI_lt] at q; omega)]
theorem mn_s0 {f : Nat → Int32} {k : Nat} (q : ¬ f k < mn f k) : mn f (k + 1) = mn f k := by
  show (if mn f k ≤ f k then mn f k else f k) = mn f k
  rw [if_pos (by rw [tI_le]; rw [tI_lt] at q; omega)]
theorem bg_an (f : Nat → Int32) : ∀ k, (mn f k < 1000000000 → bg f k = nI (an f k)) ∧ (¬ mn f k < 1000000000 → bg f k = -1000000)
  | 0 => ⟨fun h => absurd h (by unfold mn; decide), fun _ => rfl⟩
  | k + 1 => by
    obtain ⟨i1, i2⟩ := bg_an f k
    have mf := mn_far f k
    unfold bg an
    by_cases q : f k < mn f k
    · rw [if_pos q, if_pos q, mn_s1 q]
      refine ⟨fun _ => rfl, fun n => absurd ?_ n⟩
      rw [tI_lt, far_i]; rw [tI_lt] at q; omega
    · rw [if_neg q, if_neg q, mn_s0 q]
      exact ⟨i1, i2⟩
section Best
variable {M : Mm}
theorem v_bestGear {p f : Nat} {F : Nat → Int32} (hF : ∀ t, t < 18 → Val (S_Plan_turnsBy M (nI p) (nI f) (nI t)) (F t)) : Val (S_Plan_bestGear M (nI p) (nI f)) (bg F 18) := by
  intro Φ h
  refine lp_ex (fun i (a : Int32 × Int32 × Int32 × Int32 × Int32) => ∃ j, j + i = 18 ∧ a = (nI p, nI f, bg F j, mn F j, nI j)) ?_ ?_ (i := 18) ⟨0, rfl, rfl⟩
  · rintro a ⟨j, hj, rfl⟩ rec
    obtain rfl : j = 18 := by omega
    exact ht (by decide) h
  · rintro i a ⟨j, hj, rfl⟩ rec hrec
    refine sk (nle 18 (by omega) (by decide)) (hF j (by omega) _ ⟨fun z => hrec _ ⟨j + 1, by omega, ?_⟩, fun z => hrec _ ⟨j + 1, by omega, ?_⟩⟩)
    · rw [mn_s1 z, bg, if_pos z, nI_inc]
    · rw [mn_s0 z, bg, if_neg z, nI_inc]
theorem v_best2 {p f : Nat} {F : Nat → Int32} (hF : ∀ t, t < 18 → Val (S_Plan_turnsBy M (nI p) (nI f) (nI t)) (F t)) (Φ : Int32 → Prop) (h : Φ (mn F 18)) : S_Plan_bestGear M (nI p) (nI f) (fun r2 => ((r2 = (-1000000) → Φ 1000000000) ∧ (¬ (r2 = (-1000000)) → S_Plan_turnsBy M (nI p) (nI f) r2 (fun r4 => Φ r4)))) := by
  refine v_bestGear hF _ ?_
  obtain ⟨b1, b2⟩ := bg_an F 18
  by_cases hl : mn F 18 < 1000000000
  · obtain ⟨k1, k2, -⟩ := an_at F 18 hl
    rw [b1 hl]
    rw [← k2] at h
    exact sk (nI_nn (by omega)) (hF _ k1 _ h)
  · rw [b2 hl]
    have mf := mn_far F 18
    have e : mn F 18 = 1000000000 := by
      rw [tI_eq, far_i]; rw [tI_lt, far_i] at hl; omega
    rw [e] at h
    exact ht rfl h
end Best
