/-! TEXTS: the class reads rings, cogs, pieces -/
def FrC (M0 M : Mm) : Prop := ∀ k, k < 5 ∨ (5 < k ∧ k < 13) ∨ 18 < k → M k = M0 k
theorem FrC.up {M0 M : Mm} (h : FrC M0 M) {k : Nat} (hk : k = 5 ∨ (13 ≤ k ∧ k ≤ 18)) (f : Nat → Int32) : FrC M0 (ms M k f) := fun j hj => by
  unfold ms
  rw [if_neg (by omega)]; exact h j hj
/-- the row as far as it is read: so many RINGS, COGS, PIECES -/
def PV (v : Nat → Int32) (r c p : Nat) : Prop := (v 1 = nI r ∧ v 2 = nI c ∧ v 3 = nI p ∧ r ≤ 3 ∧ c ≤ 6 ∧ p ≤ 6) ∧ (v 4 = 0 ∧ v 5 = 0 ∧ v 6 = 0 ∧ v 7 = 0) ∧ (1 ≤ (v 0).toInt ∧ (v 0).toInt ≤ 99) ∧ (∀ i, i < r → 20 ≤ (v (8 + i)).toInt ∧ (v (8 + i)).toInt ≤ 60) ∧ (∀ i, i < c → (1 ≤ (v (11 + i)).toInt ∧ (v (11 + i)).toInt ≤ 5) ∧ (10 ≤ (v (17 + i)).toInt ∧ (v (17 + i)).toInt ≤ 40)) ∧ (∀ i, i < 6 → v (29 + i) = 0) ∧ (∀ i, i < p → 0 ≤ (v (23 + i)).toInt ∧ (v (23 + i)).toInt ≤ 9)
def RB (f rg kd th on sl v : Nat → Int32) (r c p : Nat) : Prop := (f 1 = nI r ∧ f 2 = nI c ∧ f 3 = nI p ∧ f 4 = v 0) ∧ (f 5 = 0 ∧ f 6 = 0 ∧ f 7 = 0 ∧ f 8 = 0) ∧ (∀ i, i < r → rg i = v (8 + i)) ∧ (∀ i, i < c → kd i = v (11 + i) ∧ th i = v (17 + i)) ∧ (∀ i, i < 6 → on i = 0) ∧ (∀ i, i < p → sl i = v (23 + i))
def wR (r : Nat) (x : Int32) (v : Nat → Int32) : Nat → Int32 := upd (upd v (8 + r) x) 1 (nI (r + 1))
def wC (c : Nat) (k x : Int32) (v : Nat → Int32) : Nat → Int32 := upd (upd (upd v (11 + c) k) (17 + c) x) 2 (nI (c + 1))
def wP (p : Nat) (x : Int32) (v : Nat → Int32) : Nat → Int32 := upd (upd v (23 + p) x) 3 (nI (p + 1))
section Rows2
variable {v f rg kd th on sl : Nat → Int32} {r c p : Nat} {x k : Int32}
theorem wR_o {j : Nat} (h1 : ¬ j = 1) (h2 : ¬ j = 8 + r) : wR r x v j = v j := by unfold wR; rw [pk_un h1, pk_un h2]
theorem wP_o {j : Nat} (h1 : ¬ j = 3) (h2 : ¬ j = 23 + p) : wP p x v j = v j := by unfold wP; rw [pk_un h1, pk_un h2]
theorem wC_o {j : Nat} (h1 : ¬ j = 2) (h2 : ¬ j = 11 + c) (h3 : ¬ j = 17 + c) : wC c k x v j = v j := by unfold wC; rw [pk_un h1, pk_un h3, pk_un h2]
theorem wR_i : wR r x v (8 + r) = x := by unfold wR; rw [pk_un (by omega), pk_us]
theorem wP_i : wP p x v (23 + p) = x := by unfold wP; rw [pk_un (by omega), pk_us]
theorem wC_k : wC c k x v (11 + c) = k := by unfold wC; rw [pk_un (by omega), pk_un (by omega), pk_us]
theorem wC_x : wC c k x v (17 + c) = x := by unfold wC; rw [pk_un (by omega), pk_us]
theorem PV.ring (h : PV v r c p) (hr : r < 3) (hx : 20 ≤ x.toInt ∧ x.toInt ≤ 60) : PV (wR r x v) (r + 1) c p := by
  obtain ⟨⟨a1, a2, a3, a4, a5, a6⟩, ⟨b1, b2, b3, b4⟩, s, h1, h2, h3, h4⟩ := h
  have e0 : wR r x v 0 = v 0 := wR_o (by omega) (by omega)
  have e2 : wR r x v 2 = v 2 := wR_o (by omega) (by omega)
  have e3 : wR r x v 3 = v 3 := wR_o (by omega) (by omega)
  have e4 : wR r x v 4 = v 4 := wR_o (by omega) (by omega)
  have e5 : wR r x v 5 = v 5 := wR_o (by omega) (by omega)
  have e6 : wR r x v 6 = v 6 := wR_o (by omega) (by omega)
  have e7 : wR r x v 7 = v 7 := wR_o (by omega) (by omega)
  unfold PV
  rw [e0, e2, e3, e4, e5, e6, e7]
  refine ⟨⟨pk_us, a2, a3, by omega, a5, a6⟩, ⟨b1, b2, b3, b4⟩, s, fun i hi => ?_, fun i hi => ?_, fun i hi => ?_, fun i hi => ?_⟩
  · by_cases z : i = r
    · rw [z, wR_i]; exact hx
    · rw [wR_o (by omega) (by omega)]; exact h1 i (by omega)
  · rw [wR_o (by omega) (by omega), wR_o (by omega) (by omega)]; exact h2 i hi
  · rw [wR_o (by omega) (by omega)]; exact h3 i hi
  · rw [wR_o (by omega) (by omega)]; exact h4 i hi
theorem PV.piece (h : PV v r c p) (hp : p < 6) (hx : 0 ≤ x.toInt ∧ x.toInt ≤ 9) : PV (wP p x v) r c (p + 1) := by
  obtain ⟨⟨a1, a2, a3, a4, a5, a6⟩, ⟨b1, b2, b3, b4⟩, s, h1, h2, h3, h4⟩ := h
  have e0 : wP p x v 0 = v 0 := wP_o (by omega) (by omega)
  have e1 : wP p x v 1 = v 1 := wP_o (by omega) (by omega)
  have e2 : wP p x v 2 = v 2 := wP_o (by omega) (by omega)
  have e4 : wP p x v 4 = v 4 := wP_o (by omega) (by omega)
  have e5 : wP p x v 5 = v 5 := wP_o (by omega) (by omega)
  have e6 : wP p x v 6 = v 6 := wP_o (by omega) (by omega)
  have e7 : wP p x v 7 = v 7 := wP_o (by omega) (by omega)
  unfold PV
  rw [e0, e1, e2, e4, e5, e6, e7]
  refine ⟨⟨a1, a2, pk_us, a4, a5, by omega⟩, ⟨b1, b2, b3, b4⟩, s, fun i hi => ?_, fun i hi => ?_, fun i hi => ?_, fun i hi => ?_⟩
  · rw [wP_o (by omega) (by omega)]; exact h1 i hi
  · rw [wP_o (by omega) (by omega), wP_o (by omega) (by omega)]; exact h2 i hi
  · rw [wP_o (by omega) (by omega)]; exact h3 i hi
  · by_cases z : i = p
    · rw [z, wP_i]; exact hx
    · rw [wP_o (by omega) (by omega)]; exact h4 i (by omega)
theorem PV.cog (h : PV v r c p) (hc : c < 6) (hk : 1 ≤ k.toInt ∧ k.toInt ≤ 5) (hx : 10 ≤ x.toInt ∧ x.toInt ≤ 40) : PV (wC c k x v) r (c + 1) p := by
  obtain ⟨⟨a1, a2, a3, a4, a5, a6⟩, ⟨b1, b2, b3, b4⟩, s, h1, h2, h3, h4⟩ := h
  have e0 : wC c k x v 0 = v 0 := wC_o (by omega) (by omega) (by omega)
  have e1 : wC c k x v 1 = v 1 := wC_o (by omega) (by omega) (by omega)
  have e3 : wC c k x v 3 = v 3 := wC_o (by omega) (by omega) (by omega)
  have e4 : wC c k x v 4 = v 4 := wC_o (by omega) (by omega) (by omega)
  have e5 : wC c k x v 5 = v 5 := wC_o (by omega) (by omega) (by omega)
  have e6 : wC c k x v 6 = v 6 := wC_o (by omega) (by omega) (by omega)
  have e7 : wC c k x v 7 = v 7 := wC_o (by omega) (by omega) (by omega)
  unfold PV
  rw [e0, e1, e3, e4, e5, e6, e7]
  refine ⟨⟨a1, pk_us, a3, a4, by omega, a6⟩, ⟨b1, b2, b3, b4⟩, s, fun i hi => ?_, fun i hi => ?_, fun i hi => ?_, fun i hi => ?_⟩
  · rw [wC_o (by omega) (by omega) (by omega)]; exact h1 i hi
  · by_cases z : i = c
    · rw [z, wC_k, wC_x]; exact ⟨hk, hx⟩
    · rw [wC_o (by omega) (by omega) (by omega), wC_o (by omega) (by omega) (by omega)]; exact h2 i (by omega)
  · rw [wC_o (by omega) (by omega) (by omega)]; exact h3 i hi
  · rw [wC_o (by omega) (by omega) (by omega)]; exact h4 i hi
theorem RB.ring (h : RB f rg kd th on sl v r c p) (hr : r < 3) (hc : c ≤ 6) (hp : p ≤ 6) : RB (upd f 1 (nI (r + 1))) (upd rg r x) kd th on sl (wR r x v) (r + 1) c p := by
  obtain ⟨⟨a1, a2, a3, a4⟩, b, h1, h2, h3, h4⟩ := h
  have e0 : wR r x v 0 = v 0 := wR_o (by omega) (by omega)
  refine ⟨⟨pk_us, a2, a3, by rw [e0]; exact a4⟩, b, fun i hi => ?_, fun i hi => ?_, h3, fun i hi => ?_⟩
  · by_cases z : i = r
    · rw [z, wR_i, pk_us]
    · rw [wR_o (by omega) (by omega), pk_un z]; exact h1 i (by omega)
  · rw [wR_o (by omega) (by omega), wR_o (by omega) (by omega)]; exact h2 i hi
  · rw [wR_o (by omega) (by omega)]; exact h4 i hi
theorem RB.piece (h : RB f rg kd th on sl v r c p) (hr : r ≤ 3) (hc : c ≤ 6) (hp : p < 6) : RB (upd f 3 (nI (p + 1))) rg kd th on (upd sl p x) (wP p x v) r c (p + 1) := by
  obtain ⟨⟨a1, a2, a3, a4⟩, b, h1, h2, h3, h4⟩ := h
  have e0 : wP p x v 0 = v 0 := wP_o (by omega) (by omega)
  refine ⟨⟨a1, a2, pk_us, by rw [e0]; exact a4⟩, b, fun i hi => ?_, fun i hi => ?_, h3, fun i hi => ?_⟩
  · rw [wP_o (by omega) (by omega)]; exact h1 i hi
  · rw [wP_o (by omega) (by omega), wP_o (by omega) (by omega)]; exact h2 i hi
  · by_cases z : i = p
    · rw [z, wP_i, pk_us]
    · rw [wP_o (by omega) (by omega), pk_un z]; exact h4 i (by omega)
theorem RB.cog (h : RB f rg kd th on sl v r c p) (hr : r ≤ 3) (hc : c < 6) (hp : p ≤ 6) : RB (upd f 2 (nI (c + 1))) rg (upd kd c k) (upd th c x) on sl (wC c k x v) r (c + 1) p := by
  obtain ⟨⟨a1, a2, a3, a4⟩, b, h1, h2, h3, h4⟩ := h
  have e0 : wC c k x v 0 = v 0 := wC_o (by omega) (by omega) (by omega)
  refine ⟨⟨a1, pk_us, a3, by rw [e0]; exact a4⟩, b, fun i hi => ?_, fun i hi => ?_, h3, fun i hi => ?_⟩
  · rw [wC_o (by omega) (by omega) (by omega)]; exact h1 i hi
  · by_cases z : i = c
    · rw [z, wC_k, wC_x, pk_us, pk_us]; exact ⟨rfl, rfl⟩
    · rw [wC_o (by omega) (by omega) (by omega), wC_o (by omega) (by omega) (by omega), pk_un z, pk_un z]; exact h2 i (by omega)
  · rw [wC_o (by omega) (by omega) (by omega)]; exact h4 i hi
end Rows2
/-- the KIND of a COG by its letter; 0 none -/
def ksr (x : Int32) : Int32 := if x = 112 then 1 else if x = 119 then 2 else if x = 114 then 3 else if x = 111 then 4 else if x = 102 then 5 else 0
theorem ksr_b {x : Int32} (h : ¬ ksr x = 0) : 1 ≤ (ksr x).toInt ∧ (ksr x).toInt ≤ 5 := by
  unfold ksr at *
  split
  · decide
  · split
    · decide
    · split
      · decide
      · split
        · decide
        · split
          · decide
          · rename_i z1 z2 z3 z4 z5
            rw [if_neg z1, if_neg z2, if_neg z3, if_neg z4, if_neg z5] at h
            exact absurd rfl h
theorem v_sortOf (M : Mm) (x : Int32) : Val (S_Tape_sortOf M x) (if ksr x = 0 then -1000000 else ksr x) := by
  intro Φ k
  refine ⟨fun z => ?_, fun z1 => ⟨fun z => ?_, fun z2 => ⟨fun z => ?_, fun z3 => ⟨fun z => ?_, fun z4 => ⟨fun z => ?_, fun z5 => ?_⟩⟩⟩⟩⟩
  · rw [z] at k; exact k
  · rw [z] at k; exact k
  · rw [z] at k; exact k
  · rw [z] at k; exact k
  · rw [z] at k; exact k
  · have e : ksr x = 0 := by unfold ksr; rw [if_neg z3, if_neg z5, if_neg z4, if_neg z2, if_neg z1]
    rw [if_pos e] at k; exact k
def CS (M0 M : Mm) (N : Nat) (l : Nat → Int32) (i : Nat) (v : Nat → Int32) (r c p : Nat) : Prop := FrC M0 M ∧ TP M N l ∧ M 5 2 = nI i ∧ M 5 3 = 0 ∧ i ≤ N ∧ RB (M 13) (M 14) (M 15) (M 16) (M 17) (M 18) v r c p ∧ PV v r c p
def CX (M0 M : Mm) (N : Nat) (l : Nat → Int32) (f q : Nat) : Prop := FrC M0 M ∧ TP M N l ∧ M 5 3 = nI f ∧ M 5 4 = nI q ∧ ¬ M 5 3 = 0
def rgs (l : Nat → Int32) : Nat → Nat → Nat → (Nat → Int32) → Nat × Nat × (Nat → Int32)
  | 0, _, i, v => (1, i, v)
  | k + 1, r, i, v => if l i = 107 then (if r = 3 then (3, i, v) else if (num l 20 60 (i + 1)).2.1 = 0 then rgs l k (r + 1) (num l 20 60 (i + 1)).2.2 (wR r (num l 20 60 (i + 1)).1 v) else ((num l 20 60 (i + 1)).2.1, (num l 20 60 (i + 1)).2.2, v)) else if r = 0 then (1, i, v) else (0, i, v)
theorem rgs_s (l : Nat → Int32) (k r i : Nat) (v : Nat → Int32) : rgs l (k + 1) r i v = if l i = 107 then (if r = 3 then (3, i, v) else if (num l 20 60 (i + 1)).2.1 = 0 then rgs l k (r + 1) (num l 20 60 (i + 1)).2.2 (wR r (num l 20 60 (i + 1)).1 v) else ((num l 20 60 (i + 1)).2.1, (num l 20 60 (i + 1)).2.2, v)) else if r = 0 then (1, i, v) else (0, i, v) := rfl
def cgs (l : Nat → Int32) : Nat → Nat → Nat → (Nat → Int32) → Nat × Nat × (Nat → Int32)
  | 0, _, i, v => (1, i, v)
  | k + 1, r, i, v => if ¬ ksr (l i) = 0 then (if r = 6 then (3, i, v) else if (num l 10 40 (i + 1)).2.1 = 0 then cgs l k (r + 1) (num l 10 40 (i + 1)).2.2 (wC r (ksr (l i)) (num l 10 40 (i + 1)).1 v) else ((num l 10 40 (i + 1)).2.1, (num l 10 40 (i + 1)).2.2, v)) else if r = 0 then (1, i, v) else (0, i, v)
theorem cgs_s (l : Nat → Int32) (k r i : Nat) (v : Nat → Int32) : cgs l (k + 1) r i v = if ¬ ksr (l i) = 0 then (if r = 6 then (3, i, v) else if (num l 10 40 (i + 1)).2.1 = 0 then cgs l k (r + 1) (num l 10 40 (i + 1)).2.2 (wC r (ksr (l i)) (num l 10 40 (i + 1)).1 v) else ((num l 10 40 (i + 1)).2.1, (num l 10 40 (i + 1)).2.2, v)) else if r = 0 then (1, i, v) else (0, i, v) := rfl
def psc (l : Nat → Int32) : Nat → Nat → Nat → (Nat → Int32) → Nat × Nat × (Nat → Int32)
  | 0, _, i, v => (1, i, v)
  | k + 1, r, i, v => if l i = 115 then (if r = 6 then (3, i, v) else if (num l 0 9 (i + 1)).2.1 = 0 then psc l k (r + 1) (num l 0 9 (i + 1)).2.2 (wP r (num l 0 9 (i + 1)).1 v) else ((num l 0 9 (i + 1)).2.1, (num l 0 9 (i + 1)).2.2, v)) else if r = 0 then (1, i, v) else (0, i, v)
theorem psc_s (l : Nat → Int32) (k r i : Nat) (v : Nat → Int32) : psc l (k + 1) r i v = if l i = 115 then (if r = 6 then (3, i, v) else if (num l 0 9 (i + 1)).2.1 = 0 then psc l k (r + 1) (num l 0 9 (i + 1)).2.2 (wP r (num l 0 9 (i + 1)).1 v) else ((num l 0 9 (i + 1)).2.1, (num l 0 9 (i + 1)).2.2, v)) else if r = 0 then (1, i, v) else (0, i, v) := rfl
section Reads
variable {M0 : Mm} {N : Nat} {l : Nat → Int32} {Φ : Mm → Prop}
theorem one_ne : ¬ (1 : Nat) = 0 := by decide
theorem c_rings : ∀ (k r i : Nat) (v : Nat → Int32) (M : Mm), r + k = 4 → 0 < k → CS M0 M N l i v r 0 0 → ((rgs l k r i v).1 = 0 → ∀ (M' : Mm) (r' : Nat), 1 ≤ r' → CS M0 M' N l (rgs l k r i v).2.1 (rgs l k r i v).2.2 r' 0 0 → Φ M') → (¬ (rgs l k r i v).1 = 0 → ∀ M' : Mm, CX M0 M' N l (rgs l k r i v).1 (rgs l k r i v).2.1 → Φ M') → lp (D_Tape_readRings_2 Φ) k (nI r, M)
  | 0, _, _, _, _, _, h, _, _, _ => absurd h (by omega)
  | k + 1, r, i, v, M, hk, _, hS, k0, k1 => by
    obtain ⟨hF, hT, e2, e3, hi, hB, hP⟩ := hS
    have h80 := hT.2.1
    have eM := hB.1.1
    have elo : (20 : Int32).toInt = 20 := by decide
    have ehi : (60 : Int32).toInt = 60 := by decide
    show D_Tape_readRings_2 Φ (lp (D_Tape_readRings_2 Φ) k) (nI r, M)
    rw [D_Tape_readRings_2]
    rw [rgs_s] at k0 k1
    refine sk (nI_nlt (a := 3) (b := r) (by omega) (by decide)) (c_next hT e2 (by omega) _ ?_)
    by_cases hl : l i = 107
    · rw [if_pos hl] at k0 k1
      have hiN : i < N := by
        rcases Nat.lt_or_ge i N with q | q
        · exact q
        · rw [hT.2.2.2 i q] at hl; exact absurd hl (by decide)
      refine ht hl ?_
      by_cases h3 : r = 3
      · rw [if_pos h3] at k1
        refine ht (by rw [h3]; rfl) (c_fail e3 _ _ ?_)
        refine c_numX (M := ms M 5 (upd (upd (M 5) 3 3) 4 (M 5 2))) (show ¬ (3 : Int32) = 0 by decide) _ _ _ (sk (show ¬ (3 : Int32) = 0 by decide) ?_)
        exact k1 (fun z => absurd (show (3 : Nat) = 0 from z) (by decide)) _ ⟨hF.up (Or.inl rfl) _, ⟨hT.1, hT.2⟩, rfl, e2, show ¬ (3 : Int32) = 0 by decide⟩
      · rw [if_neg h3] at k0 k1
        refine sk (fun z => h3 ((nI_inj (b := 3) (by omega) (by decide)).mp z)) ?_
        refine c_numB hT e2 e3 (by omega) _ (fun z f f1 f2 f3 => ?_) (fun z x f f1 f3 f4 => ?_)
        · rw [if_pos z] at k0 k1
          obtain ⟨hx, hq⟩ := num_ok hT.2.2.2 z
          rw [elo, ehi] at hx
          refine ht f3 ⟨vp_in_nI (by omega) (by decide), fun M4 q4 M5 q5 => ?_⟩
          rw [nI_clamp (by omega)] at q4
          have eN : mu (ms M 5 f) 14 r (num l 20 60 (i + 1)).1 13 1 + 1 = nI (r + 1) := by
            show M 13 1 + 1 = nI (r + 1)
            rw [eM, nI_inc]
          rw [q5, q4, eN, nI_inc]
          exact c_rings k (r + 1) _ _ _ (by omega) (by omega) ⟨((hF.up (Or.inl rfl) f).up (k := 14) (Or.inr (by omega)) _).up (k := 13) (Or.inr (by omega)) _, ⟨f1, hT.2⟩, f2, f3, hq, hB.ring (by omega) (by omega) (by omega), hP.ring (by omega) hx⟩ k0 k1
        · rw [if_neg z] at k1
          have f3n : ¬ f 3 = 0 := by
            have b := num_b l 20 60 (i + 1)
            rw [f3]; exact nI_ne0 (by omega) (by omega)
          exact sk f3n (k1 z _ ⟨hF.up (Or.inl rfl) f, ⟨f1, hT.2⟩, f3, f4, f3n⟩)
    · rw [if_neg hl] at k0 k1
      refine sk hl ?_
      by_cases h0 : r = 0
      · rw [if_pos h0] at k1
        refine ht (by rw [eM, h0]; rfl) (c_fail e3 _ _ ?_)
        exact k1 (fun z => absurd (show (1 : Nat) = 0 from z) (by decide)) _ ⟨hF.up (Or.inl rfl) _, ⟨hT.1, hT.2⟩, rfl, e2, show ¬ (1 : Int32) = 0 by decide⟩
      · rw [if_neg h0] at k0
        exact sk (by rw [eM]; exact nI_ne0 (by omega) (by omega)) (k0 rfl M r (by omega) ⟨hF, hT, e2, e3, hi, hB, hP⟩)
theorem c_cogs {r0 : Nat} : ∀ (k r i : Nat) (v : Nat → Int32) (M : Mm), r + k = 7 → 0 < k → CS M0 M N l i v r0 r 0 → ((cgs l k r i v).1 = 0 → ∀ (M' : Mm) (r' : Nat), 1 ≤ r' → CS M0 M' N l (cgs l k r i v).2.1 (cgs l k r i v).2.2 r0 r' 0 → Φ M') → (¬ (cgs l k r i v).1 = 0 → ∀ M' : Mm, CX M0 M' N l (cgs l k r i v).1 (cgs l k r i v).2.1 → Φ M') → lp (D_Tape_readCogs_2 Φ) k (nI r, M)
  | 0, _, _, _, _, _, h, _, _, _ => absurd h (by omega)
  | k + 1, r, i, v, M, hk, _, hS, k0, k1 => by
    obtain ⟨hF, hT, e2, e3, hi, hB, hP⟩ := hS
    have h80 := hT.2.1
    have eM := hB.1.2.1
    have elo : (10 : Int32).toInt = 10 := by decide
    have ehi : (40 : Int32).toInt = 40 := by decide
    show D_Tape_readCogs_2 Φ (lp (D_Tape_readCogs_2 Φ) k) (nI r, M)
    rw [D_Tape_readCogs_2]
    rw [cgs_s] at k0 k1
    refine sk (nI_nlt (a := 6) (b := r) (by omega) (by decide)) (c_next hT e2 (by omega) _ ?_)
    refine v_sortOf M _ _ ?_
    by_cases hl : ¬ ksr (l i) = 0
    · rw [if_pos hl] at k0 k1
      have hiN : i < N := by
        rcases Nat.lt_or_ge i N with q | q
        · exact q
        · rw [hT.2.2.2 i q] at hl; exact absurd (by decide) hl
      rw [if_neg hl]
      have hkn : ¬ ksr (l i) = -1000000 := fun z => by
        have b := ksr_b hl
        rw [z, show (-1000000 : Int32).toInt = -1000000 by decide] at b
        omega
      refine sk hkn (c_next hT e2 (by omega) _ (v_sortOf M _ _ ?_))
      rw [if_neg hl]
      by_cases h3 : r = 6
      · rw [if_pos h3] at k1
        refine ht (by rw [h3]; rfl) (c_fail e3 _ _ ?_)
        refine c_numX (M := ms M 5 (upd (upd (M 5) 3 3) 4 (M 5 2))) (show ¬ (3 : Int32) = 0 by decide) _ _ _ (sk (show ¬ (3 : Int32) = 0 by decide) ?_)
        exact k1 (fun z => absurd (show (3 : Nat) = 0 from z) (by decide)) _ ⟨hF.up (Or.inl rfl) _, ⟨hT.1, hT.2⟩, rfl, e2, show ¬ (3 : Int32) = 0 by decide⟩
      · rw [if_neg h3] at k0 k1
        refine sk (fun z => h3 ((nI_inj (b := 6) (by omega) (by decide)).mp z)) ?_
        refine c_numB hT e2 e3 (by omega) _ (fun z f f1 f2 f3 => ?_) (fun z x f f1 f3 f4 => ?_)
        · rw [if_pos z] at k0 k1
          obtain ⟨hx, hq⟩ := num_ok hT.2.2.2 z
          rw [elo, ehi] at hx
          refine ht f3 ⟨vp_in_nI (by omega) (by decide), fun M5 q5 => ⟨vp_in_nI (by omega) (by decide), fun M6 q6 M7 q7 => ?_⟩⟩
          rw [nI_clamp (by omega)] at q5 q6
          have eN : mu (mu (ms M 5 f) 15 r (ksr (l i))) 16 r (num l 10 40 (i + 1)).1 13 2 + 1 = nI (r + 1) := by
            show M 13 2 + 1 = nI (r + 1)
            rw [eM, nI_inc]
          rw [q7, q6, q5, eN, nI_inc]
          exact c_cogs k (r + 1) _ _ _ (by omega) (by omega) ⟨(((hF.up (Or.inl rfl) f).up (k := 15) (Or.inr (by omega)) _).up (k := 16) (Or.inr (by omega)) _).up (k := 13) (Or.inr (by omega)) _, ⟨f1, hT.2⟩, f2, f3, hq, hB.cog hP.1.2.2.2.1 (by omega) (by omega), hP.cog (by omega) (ksr_b hl) hx⟩ k0 k1
        · rw [if_neg z] at k1
          have f3n : ¬ f 3 = 0 := by
            have b := num_b l 10 40 (i + 1)
            rw [f3]; exact nI_ne0 (by omega) (by omega)
          exact sk f3n (k1 z _ ⟨hF.up (Or.inl rfl) f, ⟨f1, hT.2⟩, f3, f4, f3n⟩)
    · rw [if_neg hl] at k0 k1
      have hl0 : ksr (l i) = 0 := Classical.byContradiction hl
      rw [if_pos hl0]
      refine ht rfl ?_
      by_cases h0 : r = 0
      · rw [if_pos h0] at k1
        refine ht (by rw [eM, h0]; rfl) (c_fail e3 _ _ ?_)
        exact k1 (fun z => absurd (show (1 : Nat) = 0 from z) (by decide)) _ ⟨hF.up (Or.inl rfl) _, ⟨hT.1, hT.2⟩, rfl, e2, show ¬ (1 : Int32) = 0 by decide⟩
      · rw [if_neg h0] at k0
        exact sk (by rw [eM]; exact nI_ne0 (by omega) (by omega)) (k0 rfl M r (by omega) ⟨hF, hT, e2, e3, hi, hB, hP⟩)
theorem c_pieces {r0 c0 : Nat} : ∀ (k r i : Nat) (v : Nat → Int32) (M : Mm), r + k = 7 → 0 < k → CS M0 M N l i v r0 c0 r → ((psc l k r i v).1 = 0 → ∀ (M' : Mm) (r' : Nat), 1 ≤ r' → CS M0 M' N l (psc l k r i v).2.1 (psc l k r i v).2.2 r0 c0 r' → Φ M') → (¬ (psc l k r i v).1 = 0 → ∀ M' : Mm, CX M0 M' N l (psc l k r i v).1 (psc l k r i v).2.1 → Φ M') → lp (D_Tape_readPieces_2 Φ) k (nI r, M)
  | 0, _, _, _, _, _, h, _, _, _ => absurd h (by omega)
  | k + 1, r, i, v, M, hk, _, hS, k0, k1 => by
    obtain ⟨hF, hT, e2, e3, hi, hB, hP⟩ := hS
    have h80 := hT.2.1
    have eM := hB.1.2.2.1
    have elo : (0 : Int32).toInt = 0 := by decide
    have ehi : (9 : Int32).toInt = 9 := by decide
    show D_Tape_readPieces_2 Φ (lp (D_Tape_readPieces_2 Φ) k) (nI r, M)
    rw [D_Tape_readPieces_2]
    rw [psc_s] at k0 k1
    refine sk (nI_nlt (a := 6) (b := r) (by omega) (by decide)) (c_next hT e2 (by omega) _ ?_)
    by_cases hl : l i = 115
    · rw [if_pos hl] at k0 k1
      have hiN : i < N := by
        rcases Nat.lt_or_ge i N with q | q
        · exact q
        · rw [hT.2.2.2 i q] at hl; exact absurd hl (by decide)
      refine ht hl ?_
      by_cases h3 : r = 6
      · rw [if_pos h3] at k1
        refine ht (by rw [h3]; rfl) (c_fail e3 _ _ ?_)
        refine c_numX (M := ms M 5 (upd (upd (M 5) 3 3) 4 (M 5 2))) (show ¬ (3 : Int32) = 0 by decide) _ _ _ (sk (show ¬ (3 : Int32) = 0 by decide) ?_)
        exact k1 (fun z => absurd (show (3 : Nat) = 0 from z) (by decide)) _ ⟨hF.up (Or.inl rfl) _, ⟨hT.1, hT.2⟩, rfl, e2, show ¬ (3 : Int32) = 0 by decide⟩
      · rw [if_neg h3] at k0 k1
        refine sk (fun z => h3 ((nI_inj (b := 6) (by omega) (by decide)).mp z)) ?_
        refine c_numB hT e2 e3 (by omega) _ (fun z f f1 f2 f3 => ?_) (fun z x f f1 f3 f4 => ?_)
        · rw [if_pos z] at k0 k1
          obtain ⟨hx, hq⟩ := num_ok hT.2.2.2 z
          rw [elo, ehi] at hx
          refine ht f3 ⟨vp_in_nI (by omega) (by decide), fun M4 q4 M5 q5 => ?_⟩
          rw [nI_clamp (by omega)] at q4
          have eN : mu (ms M 5 f) 18 r (num l 0 9 (i + 1)).1 13 3 + 1 = nI (r + 1) := by
            show M 13 3 + 1 = nI (r + 1)
            rw [eM, nI_inc]
          rw [q5, q4, eN, nI_inc]
          exact c_pieces k (r + 1) _ _ _ (by omega) (by omega) ⟨((hF.up (Or.inl rfl) f).up (k := 18) (Or.inr (by omega)) _).up (k := 13) (Or.inr (by omega)) _, ⟨f1, hT.2⟩, f2, f3, hq, hB.piece hP.1.2.2.2.1 hP.1.2.2.2.2.1 (by omega), hP.piece (by omega) hx⟩ k0 k1
        · rw [if_neg z] at k1
          have f3n : ¬ f 3 = 0 := by
            have b := num_b l 0 9 (i + 1)
            rw [f3]; exact nI_ne0 (by omega) (by omega)
          exact sk f3n (k1 z _ ⟨hF.up (Or.inl rfl) f, ⟨f1, hT.2⟩, f3, f4, f3n⟩)
    · rw [if_neg hl] at k0 k1
      refine sk hl ?_
      by_cases h0 : r = 0
      · rw [if_pos h0] at k1
        refine ht (by rw [eM, h0]; rfl) (c_fail e3 _ _ ?_)
        exact k1 (fun z => absurd (show (1 : Nat) = 0 from z) (by decide)) _ ⟨hF.up (Or.inl rfl) _, ⟨hT.1, hT.2⟩, rfl, e2, show ¬ (1 : Int32) = 0 by decide⟩
      · rw [if_neg h0] at k0
        exact sk (by rw [eM]; exact nI_ne0 (by omega) (by omega)) (k0 rfl M r (by omega) ⟨hF, hT, e2, e3, hi, hB, hP⟩)
end Reads
