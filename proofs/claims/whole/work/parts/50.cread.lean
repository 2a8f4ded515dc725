/-! TEXTS: the class reads a tape whole -/
def bnd (a : Nat × Nat × (Nat → Int32)) (k : Nat → (Nat → Int32) → Nat × Nat × (Nat → Int32)) : Nat × Nat × (Nat → Int32) := if a.1 = 0 then k a.2.1 a.2.2 else a
def lwr (l z : Nat → Int32) : Nat × Nat × (Nat → Int32) := if l 0 = 98 then (if (num l 1 99 (0 + 1)).2.1 = 0 then (0, (num l 1 99 (0 + 1)).2.2, upd z 0 (num l 1 99 (0 + 1)).1) else ((num l 1 99 (0 + 1)).2.1, (num l 1 99 (0 + 1)).2.2, z)) else (1, 0, z)
def fin (l : Nat → Int32) (i : Nat) (v : Nat → Int32) : Nat × Nat × (Nat → Int32) := if l i = -1 then (0, i, v) else (1, i, v)
def prC (l : Nat → Int32) (i : Nat) (v : Nat → Int32) : Nat × Nat × (Nat → Int32) := bnd (psc l 7 0 i v) (fin l)
def prB (l : Nat → Int32) (i : Nat) (v : Nat → Int32) : Nat × Nat × (Nat → Int32) := bnd (cgs l 7 0 i v) (prC l)
def prA (l : Nat → Int32) (i : Nat) (v : Nat → Int32) : Nat × Nat × (Nat → Int32) := bnd (rgs l 4 0 i v) (prB l)
/-- the tape's FAULT (0 none), where, and the row that it tells -/
def prs (l z : Nat → Int32) : Nat × Nat × (Nat → Int32) := bnd (lwr l z) (prA l)
theorem bnd_0 {a : Nat × Nat × (Nat → Int32)} {k : Nat → (Nat → Int32) → Nat × Nat × (Nat → Int32)} (h : a.1 = 0) : bnd a k = k a.2.1 a.2.2 := by unfold bnd; rw [if_pos h]
theorem bnd_1 {a : Nat × Nat × (Nat → Int32)} {k : Nat → (Nat → Int32) → Nat × Nat × (Nat → Int32)} (h : ¬ a.1 = 0) : bnd a k = a := by unfold bnd; rw [if_neg h]
theorem PV.law {z : Nat → Int32} {x : Int32} (hz : ∀ j, j < 35 → z j = 0) (hx : 1 ≤ x.toInt ∧ x.toInt ≤ 99) : PV (upd z 0 x) 0 0 0 := by
  have e : ∀ j, j < 35 → ¬ j = 0 → upd z 0 x j = 0 := fun j h1 h2 => by rw [pk_un h2]; exact hz j h1
  refine ⟨⟨e 1 (by omega) (by omega), e 2 (by omega) (by omega), e 3 (by omega) (by omega), by omega, by omega, by omega⟩, ⟨e 4 (by omega) (by omega), e 5 (by omega) (by omega), e 6 (by omega) (by omega), e 7 (by omega) (by omega)⟩, ?_, fun i hi => absurd hi (by omega), fun i hi => absurd hi (by omega), fun i hi => e _ (by omega) (by omega), fun i hi => absurd hi (by omega)⟩
  rw [pk_us]; exact hx
/-- a whole row is a good BIKE -/
theorem PV.vb {v : Nat → Int32} {r c p : Nat} (h : PV v r c p) (hr : 1 ≤ r) (hc : 1 ≤ c) (hp : 1 ≤ p) : VB v := by
  obtain ⟨⟨a1, a2, a3, a4, a5, a6⟩, ⟨b1, b2, b3, b4⟩, s, h1, h2, h3, h4⟩ := h
  have t1 : (v 1).toInt = r := by rw [a1]; exact nI_toInt (by omega)
  have t2 : (v 2).toInt = c := by rw [a2]; exact nI_toInt (by omega)
  have t3 : (v 3).toInt = p := by rw [a3]; exact nI_toInt (by omega)
  have e0 : (0 : Int32).toInt = 0 := by decide
  unfold VB
  rw [t1, t2, t3, b1, b2, b3, b4, e0]
  refine ⟨⟨by omega, by omega, by omega, s, by omega, by omega, by omega, by omega⟩, fun i hi => h1 i (by omega), fun i hi => ⟨(h2 i (by omega)).1, (h2 i (by omega)).2, ?_⟩, fun i hi => h4 i (by omega)⟩
  rw [h3 i (by omega), e0]; omega
theorem RB.rel {f rg kd th on sl v : Nat → Int32} {r c p : Nat} (h : RB f rg kd th on sl v r c p) (hP : PV v r c p) : RelB f rg kd th on sl v := by
  obtain ⟨⟨a1, a2, a3, a4, a5, a6⟩, ⟨b1, b2, b3, b4⟩, s, h1, h2, h3, h4⟩ := hP
  obtain ⟨⟨c1, c2, c3, c4⟩, ⟨d1, d2, d3, d4⟩, g1, g2, g3, g4⟩ := h
  have t1 : (v 1).toInt = r := by rw [a1]; exact nI_toInt (by omega)
  have t2 : (v 2).toInt = c := by rw [a2]; exact nI_toInt (by omega)
  have t3 : (v 3).toInt = p := by rw [a3]; exact nI_toInt (by omega)
  refine ⟨⟨c1.trans a1.symm, c2.trans a2.symm, c3.trans a3.symm, c4, d1.trans b1.symm, d2.trans b2.symm, d3.trans b3.symm, d4.trans b4.symm⟩, fun i hi => g1 i (by omega), fun i hi => ⟨(g2 i (by omega)).1, (g2 i (by omega)).2, ?_⟩, fun i hi => g4 i (by omega)⟩
  rw [g3 i (by omega), h3 i (by omega)]
section Whole
variable {M0 M : Mm} {N : Nat} {l : Nat → Int32} {Φ : Mm → Prop}
/-- behind a FAULT nothing counts -/
theorem x_end {f q : Nat} (h : CX M0 M N l f q) (k : ∀ M', CX M0 M' N l f q → Φ M') : S_Tape_next M (fun r9 => ((r9 = (-1) → D_Tape_read_52 Φ M) ∧ (¬ (r9 = (-1)) → S_Tape_fail M 1 (fun M11 => D_Tape_read_52 Φ M11)))) := by
  obtain ⟨hF, hT, h3, h4, hn⟩ := h
  obtain ⟨x, hx⟩ := c_nextAny hT
  have go : D_Tape_read_52 Φ M := by
    refine sk hn (fun M2 q2 => ?_)
    rw [q2]
    exact k _ ⟨hF.up (k := 13) (Or.inr (by omega)) _, hT, h3, h4, hn⟩
  exact hx _ ⟨fun _ => go, fun _ => c_fail0 hn _ _ go⟩
theorem x_pieces {f q : Nat} (h : CX M0 M N l f q) (k : Φ M) : S_Tape_readPieces M Φ := by
  obtain ⟨hF, hT, h3, h4, hn⟩ := h
  obtain ⟨x, hx⟩ := c_nextAny hT
  exact ⟨1, sk (by decide) (hx _ ⟨fun _ => sk (by decide) (c_numX hn _ _ _ (sk hn k)), fun _ => ⟨fun _ => c_fail0 hn _ _ k, fun _ => k⟩⟩)⟩
theorem x_rings {f q : Nat} (h : CX M0 M N l f q) (k : Φ M) : S_Tape_readRings M Φ := by
  obtain ⟨hF, hT, h3, h4, hn⟩ := h
  obtain ⟨x, hx⟩ := c_nextAny hT
  exact ⟨1, sk (by decide) (hx _ ⟨fun _ => sk (by decide) (c_numX hn _ _ _ (sk hn k)), fun _ => ⟨fun _ => c_fail0 hn _ _ k, fun _ => k⟩⟩)⟩
theorem x_cogs {f q : Nat} (h : CX M0 M N l f q) (k : Φ M) : S_Tape_readCogs M Φ := by
  obtain ⟨hF, hT, h3, h4, hn⟩ := h
  obtain ⟨x, hx⟩ := c_nextAny hT
  exact ⟨1, sk (by decide) (hx _ (v_sortOf M x _ ⟨fun _ => ⟨fun _ => c_fail0 hn _ _ k, fun _ => k⟩, fun _ => hx _ (v_sortOf M x _ (sk (by decide) (c_numX hn _ _ _ (sk hn k))))⟩))⟩
/-- what is left of reading, piece by piece from the end -/
theorem c_fin {i r c p : Nat} {v : Nat → Int32} (hS : CS M0 M N l i v r c p) (hr : 1 ≤ r) (hc : 1 ≤ c) (hp : 1 ≤ p) (k0 : (fin l i v).1 = 0 → ∀ (M' : Mm) (r c p : Nat), 1 ≤ r → 1 ≤ c → 1 ≤ p → FrC M0 M' → M' 5 1 = nI N → M' 5 3 = 0 → M' 13 0 = 1 → RB (M' 13) (M' 14) (M' 15) (M' 16) (M' 17) (M' 18) (fin l i v).2.2 r c p → PV (fin l i v).2.2 r c p → Φ M') (k1 : ¬ (fin l i v).1 = 0 → ∀ M', CX M0 M' N l (fin l i v).1 (fin l i v).2.1 → Φ M') : S_Tape_next M (fun r9 => ((r9 = (-1) → D_Tape_read_52 Φ M) ∧ (¬ (r9 = (-1)) → S_Tape_fail M 1 (fun M11 => D_Tape_read_52 Φ M11)))) := by
  obtain ⟨hF, hT, e2, e3, hi, hB, hP⟩ := hS
  have h80 := hT.2.1
  unfold fin at k0 k1
  refine c_next hT e2 (by omega) _ ⟨fun z => ht e3 (fun M2 q2 => ?_), fun z => c_fail e3 _ _ (sk (show ¬ (1 : Int32) = 0 by decide) (fun M2 q2 => ?_))⟩
  · rw [if_pos z] at k0
    rw [q2]
    exact k0 rfl _ r c p hr hc hp (hF.up (k := 13) (Or.inr (by omega)) _) hT.1 e3 rfl hB hP
  · rw [if_neg z] at k1
    rw [q2]
    exact k1 (fun z => absurd (show (1 : Nat) = 0 from z) (by decide)) _ ⟨(hF.up (Or.inl rfl) _).up (k := 13) (Or.inr (by omega)) _, ⟨hT.1, hT.2⟩, rfl, e2, show ¬ (1 : Int32) = 0 by decide⟩
theorem c_prC {i r c : Nat} {v : Nat → Int32} (hS : CS M0 M N l i v r c 0) (hr : 1 ≤ r) (hc : 1 ≤ c) (k0 : (prC l i v).1 = 0 → ∀ (M' : Mm) (r c p : Nat), 1 ≤ r → 1 ≤ c → 1 ≤ p → FrC M0 M' → M' 5 1 = nI N → M' 5 3 = 0 → M' 13 0 = 1 → RB (M' 13) (M' 14) (M' 15) (M' 16) (M' 17) (M' 18) (prC l i v).2.2 r c p → PV (prC l i v).2.2 r c p → Φ M') (k1 : ¬ (prC l i v).1 = 0 → ∀ M', CX M0 M' N l (prC l i v).1 (prC l i v).2.1 → Φ M') : S_Tape_readPieces M (fun M8 => S_Tape_next M8 (fun r9 => ((r9 = (-1) → D_Tape_read_52 Φ M8) ∧ (¬ (r9 = (-1)) → S_Tape_fail M8 1 (fun M11 => D_Tape_read_52 Φ M11))))) := by
  unfold prC at k0 k1
  refine ⟨7, c_pieces 7 0 i v M rfl (by omega) hS (fun z M' p hp hS' => ?_) (fun z M' hX => ?_)⟩
  · rw [bnd_0 z] at k0 k1
    exact c_fin hS' hr hc hp k0 k1
  · rw [bnd_1 z] at k1
    exact x_end hX (k1 z)
theorem c_prB {i r : Nat} {v : Nat → Int32} (hS : CS M0 M N l i v r 0 0) (hr : 1 ≤ r) (k0 : (prB l i v).1 = 0 → ∀ (M' : Mm) (r c p : Nat), 1 ≤ r → 1 ≤ c → 1 ≤ p → FrC M0 M' → M' 5 1 = nI N → M' 5 3 = 0 → M' 13 0 = 1 → RB (M' 13) (M' 14) (M' 15) (M' 16) (M' 17) (M' 18) (prB l i v).2.2 r c p → PV (prB l i v).2.2 r c p → Φ M') (k1 : ¬ (prB l i v).1 = 0 → ∀ M', CX M0 M' N l (prB l i v).1 (prB l i v).2.1 → Φ M') : S_Tape_readCogs M (fun M7 => S_Tape_readPieces M7 (fun M8 => S_Tape_next M8 (fun r9 => ((r9 = (-1) → D_Tape_read_52 Φ M8) ∧ (¬ (r9 = (-1)) → S_Tape_fail M8 1 (fun M11 => D_Tape_read_52 Φ M11)))))) := by
  unfold prB at k0 k1
  refine ⟨7, c_cogs 7 0 i v M rfl (by omega) hS (fun z M' c hc hS' => ?_) (fun z M' hX => ?_)⟩
  · rw [bnd_0 z] at k0 k1
    exact c_prC hS' hr hc k0 k1
  · rw [bnd_1 z] at k1
    exact x_pieces hX (x_end hX (k1 z))
theorem c_prA {i : Nat} {v : Nat → Int32} (hS : CS M0 M N l i v 0 0 0) (k0 : (prA l i v).1 = 0 → ∀ (M' : Mm) (r c p : Nat), 1 ≤ r → 1 ≤ c → 1 ≤ p → FrC M0 M' → M' 5 1 = nI N → M' 5 3 = 0 → M' 13 0 = 1 → RB (M' 13) (M' 14) (M' 15) (M' 16) (M' 17) (M' 18) (prA l i v).2.2 r c p → PV (prA l i v).2.2 r c p → Φ M') (k1 : ¬ (prA l i v).1 = 0 → ∀ M', CX M0 M' N l (prA l i v).1 (prA l i v).2.1 → Φ M') : S_Tape_readRings M (fun M6 => S_Tape_readCogs M6 (fun M7 => S_Tape_readPieces M7 (fun M8 => S_Tape_next M8 (fun r9 => ((r9 = (-1) → D_Tape_read_52 Φ M8) ∧ (¬ (r9 = (-1)) → S_Tape_fail M8 1 (fun M11 => D_Tape_read_52 Φ M11))))))) := by
  unfold prA at k0 k1
  refine ⟨4, c_rings 4 0 i v M rfl (by omega) hS (fun z M' r hr hS' => ?_) (fun z M' hX => ?_)⟩
  · rw [bnd_0 z] at k0 k1
    exact c_prB hS' hr k0 k1
  · rw [bnd_1 z] at k1
    exact x_cogs hX (x_pieces hX (x_end hX (k1 z)))
theorem c_xA {f q : Nat} (hX : CX M0 M N l f q) (k1 : ∀ M', CX M0 M' N l f q → Φ M') : S_Tape_readRings M (fun M6 => S_Tape_readCogs M6 (fun M7 => S_Tape_readPieces M7 (fun M8 => S_Tape_next M8 (fun r9 => ((r9 = (-1) → D_Tape_read_52 Φ M8) ∧ (¬ (r9 = (-1)) → S_Tape_fail M8 1 (fun M11 => D_Tape_read_52 Φ M11))))))) :=
  x_rings hX (x_cogs hX (x_pieces hX (x_end hX k1)))
theorem c_prs {z : Nat → Int32} (hz : ∀ j, j < 35 → z j = 0) (hF : FrC M0 M) (hT : TP M N l) (e2 : M 5 2 = nI 0) (e3 : M 5 3 = 0) (hf : ∀ j, j < 9 → M 13 j = 0) (hon : ∀ j, j < 6 → M 17 j = 0) (k0 : (prs l z).1 = 0 → ∀ (M' : Mm) (r c p : Nat), 1 ≤ r → 1 ≤ c → 1 ≤ p → FrC M0 M' → M' 5 1 = nI N → M' 5 3 = 0 → M' 13 0 = 1 → RB (M' 13) (M' 14) (M' 15) (M' 16) (M' 17) (M' 18) (prs l z).2.2 r c p → PV (prs l z).2.2 r c p → Φ M') (k1 : ¬ (prs l z).1 = 0 → ∀ M', CX M0 M' N l (prs l z).1 (prs l z).2.1 → Φ M') : S_Tape_readLaw M (fun M5 => S_Tape_readRings M5 (fun M6 => S_Tape_readCogs M6 (fun M7 => S_Tape_readPieces M7 (fun M8 => S_Tape_next M8 (fun r9 => ((r9 = (-1) → D_Tape_read_52 Φ M8) ∧ (¬ (r9 = (-1)) → S_Tape_fail M8 1 (fun M11 => D_Tape_read_52 Φ M11)))))))) := by
  have h80 := hT.2.1
  have e1 : (1 : Int32).toInt = 1 := by decide
  have e99 : (99 : Int32).toInt = 99 := by decide
  unfold prs at k0 k1
  refine c_next hT e2 (by omega) _ ⟨fun y => ?_, fun y => c_fail e3 _ _ ?_⟩
  · have hiN : 0 < N := by
      rcases Nat.lt_or_ge 0 N with q | q
      · exact q
      · rw [hT.2.2.2 0 q] at y; exact absurd y (by decide)
    refine c_numB hT e2 e3 (by omega) _ (fun w f f1 f2 f3 M5 q5 => ?_) (fun w x f f1 f3 f4 M5 q5 => ?_)
    · have el : lwr l z = (0, (num l 1 99 (0 + 1)).2.2, upd z 0 (num l 1 99 (0 + 1)).1) := by unfold lwr; rw [if_pos y, if_pos w]
      rw [el, bnd_0 rfl] at k0 k1
      obtain ⟨hx, hq⟩ := num_ok hT.2.2.2 w
      rw [e1, e99] at hx
      rw [q5]
      refine c_prA ⟨(hF.up (Or.inl rfl) f).up (k := 13) (Or.inr (by omega)) _, ⟨f1, hT.2⟩, f2, f3, hq, ?_, PV.law hz hx⟩ k0 k1
      exact ⟨⟨hf 1 (by omega), hf 2 (by omega), hf 3 (by omega), pk_us.symm⟩, ⟨hf 5 (by omega), hf 6 (by omega), hf 7 (by omega), hf 8 (by omega)⟩, fun i hi => absurd hi (by omega), fun i hi => absurd hi (by omega), hon, fun i hi => absurd hi (by omega)⟩
    · have el : lwr l z = ((num l 1 99 (0 + 1)).2.1, (num l 1 99 (0 + 1)).2.2, z) := by unfold lwr; rw [if_pos y, if_neg w]
      rw [el, bnd_1 w] at k1
      have f3n : ¬ f 3 = 0 := by
        have b := num_b l 1 99 (0 + 1)
        rw [f3]; exact nI_ne0 (by omega) (by omega)
      rw [q5]
      exact c_xA ⟨(hF.up (Or.inl rfl) f).up (k := 13) (Or.inr (by omega)) _, ⟨f1, hT.2⟩, f3, f4, f3n⟩ (k1 w)
  · have el : lwr l z = (1, 0, z) := by unfold lwr; rw [if_neg y]
    have n1 : ¬ ((1 : Nat), (0 : Nat), z).1 = 0 := fun w => absurd (show (1 : Nat) = 0 from w) (by decide)
    rw [el, bnd_1 n1] at k1
    refine c_numX (M := ms M 5 (upd (upd (M 5) 3 1) 4 (M 5 2))) (show ¬ (1 : Int32) = 0 by decide) _ _ _ (fun M5 q5 => ?_)
    rw [q5]
    exact c_xA ⟨(hF.up (Or.inl rfl) _).up (k := 13) (Or.inr (by omega)) _, ⟨hT.1, hT.2⟩, rfl, e2, show ¬ (1 : Int32) = 0 by decide⟩ (k1 n1)
theorem c_clear (Φ : Mm → Prop) (k : ∀ M', (∀ j, ¬ j = 13 → ¬ j = 17 → M' j = M j) → (∀ j, j < 9 → M' 13 j = 0) → (∀ j, j < 6 → M' 17 j = 0) → Φ M') : S_Bike_clear M Φ := by
  rintro _ rfl _ rfl _ rfl _ rfl _ rfl _ rfl _ rfl _ rfl _ rfl
  refine lp_ex (fun q (st : Int32 × Mm) => ∃ j M', j + q = 6 ∧ st = (nI j, M') ∧ (∀ i, ¬ i = 13 → ¬ i = 17 → M' i = M i) ∧ (∀ i, i < 9 → M' 13 i = 0) ∧ (∀ i, i < j → M' 17 i = 0)) ?_ ?_ (i := 6) ⟨0, _, rfl, rfl, fun i h1 _ => ?_, fun i hi => ?_, fun i hi => absurd hi (by omega)⟩
  · rintro st ⟨j, M', hj, rfl, h1, h2, h3⟩ rec
    obtain rfl : j = 6 := by omega
    exact ht (by decide) (k M' h1 h2 h3)
  · rintro q st ⟨j, M', hj, rfl, h1, h2, h3⟩ rec hrec
    rw [D_Bike_clear_47, nI_clamp (by omega)]
    refine sk (nle 6 (by omega) (by decide)) ⟨vp_in_nI (by omega) (by decide), fun M3 q3 => hrec _ ⟨j + 1, mu M' 17 j 0, by omega, by rw [q3, nI_inc], fun i g1 g2 => ?_, h2, fun i hi => ?_⟩⟩
    · unfold mu ms; rw [if_neg g2]; exact h1 i g1 g2
    · show upd (M' 17) j 0 i = 0
      by_cases e : i = j
      · rw [e, pk_us]
      · rw [pk_un e]; exact h3 i (by omega)
  · unfold mu ms
    rw [if_neg h1, if_neg h1, if_neg h1, if_neg h1, if_neg h1, if_neg h1, if_neg h1, if_neg h1, if_neg h1]
  · match i, hi with
    | 0, _ => rfl
    | 1, _ => rfl
    | 2, _ => rfl
    | 3, _ => rfl
    | 4, _ => rfl
    | 5, _ => rfl
    | 6, _ => rfl
    | 7, _ => rfl
    | 8, _ => rfl
    | i + 9, h => exact absurd h (by omega)
theorem c_read {z : Nat → Int32} (hz : ∀ j, j < 35 → z j = 0) (hT : TP M N l) (k0 : (prs l z).1 = 0 → ∀ (M' : Mm) (r c p : Nat), 1 ≤ r → 1 ≤ c → 1 ≤ p → FrC M M' → M' 5 1 = nI N → M' 5 3 = 0 → M' 13 0 = 1 → RB (M' 13) (M' 14) (M' 15) (M' 16) (M' 17) (M' 18) (prs l z).2.2 r c p → PV (prs l z).2.2 r c p → Φ M') (k1 : ¬ (prs l z).1 = 0 → ∀ M', CX M M' N l (prs l z).1 (prs l z).2.1 → Φ M') : S_Tape_read M Φ := by
  rintro _ rfl _ rfl _ rfl
  refine c_clear _ (fun M' h1 h2 h3 => ?_)
  have h5 := h1 5 (by decide) (by decide)
  have h6 := h1 6 (by decide) (by decide)
  refine c_prs (M0 := M) hz (fun j hj => ?_) ⟨?_, hT.2.1, fun i hi => ?_, hT.2.2.2⟩ ?_ ?_ h2 h3 k0 k1
  · rw [h1 j (by omega) (by omega)]
    unfold mu ms
    rw [if_neg (by omega), if_neg (by omega), if_neg (by omega)]
  · rw [h5]; exact hT.1
  · rw [h6]; exact hT.2.2.1 i hi
  · rw [h5]; rfl
  · rw [h5]; rfl
end Whole
