/-! TEXTS: the reference's steps, and NUMBERS as it takes them -/
def RS (M0 M : Mm) (N : Nat) (l : Nat → Int32) (i : Nat) (v : Nat → Int32) : Prop := FrR M0 M ∧ TQ M N l ∧ TK l (M 39) i ∧ M 39 19 = 0 ∧ M 45 = v ∧ i ≤ N
def RX (M0 M : Mm) (f q : Nat) : Prop := FrR M0 M ∧ M 39 19 = nI f ∧ ¬ M 39 19 = 0 ∧ M 39 16 = nI q
section Told
variable {M0 M : Mm} {N : Nat} {l v : Nat → Int32}
theorem r_step (h : TQ M N l) {i : Nat} (e15 : M 39 15 = nI i) (hi : i ≤ 80) (Φ : Mm → Prop) (k : ∀ f : Nat → Int32, TK l f i → (∀ j, j < 15 ∨ 18 < j → f j = M 39 j) → Φ (ms M 39 f)) : S_R_step M Φ := by
  intro M1 q1
  have q1' : M1 = ms M 39 (upd (M 39) 16 (nI i)) := by rw [q1, e15]; rfl
  rw [q1']
  have hT1 : TQ (ms M 39 (upd (M 39) 16 (nI i))) N l := ⟨h.1, h.2⟩
  refine r_here hT1 (j := i) e15 (by omega) _ (fun M3 q3 => ?_)
  rw [mu_ms] at q3
  rw [q3]
  have hT3 : TQ (ms M 39 (upd (upd (M 39) 16 (nI i)) 18 (l i))) N l := ⟨h.1, h.2⟩
  refine ⟨fun z => ?_, fun z => ?_⟩
  · have z : 0 ≤ l i := z
    have nm : ¬ l i = -1 := fun w => by rw [w] at z; exact absurd z (by decide)
    refine v_in _ _ _ _ _ ⟨fun y M7 q7 => ?_, fun y => ?_⟩
    · have nd : ¬ fgr (l i) := (wi_fgr (l i)).mp y
      have e7 : M7 = ms M 39 (upd (upd (upd (M 39) 16 (nI i)) 18 (l i)) 15 (nI (i + 1))) := by
        rw [q7, mu_ms]
        show ms M 39 (upd (upd (upd (M 39) 16 (nI i)) 18 (l i)) 15 (M 39 15 + 1)) = _
        rw [e15, nI_inc]
      rw [e7]
      have go : ∀ s : Int32, s = (if ¬ wi (l i) 97 122 = 0 then 0 else if l i = 59 ∨ l i = 44 then 2 else 4) → Φ (ms M 39 (upd (upd (upd (upd (M 39) 16 (nI i)) 18 (l i)) 15 (nI (i + 1))) 17 s)) := fun s es =>
        k _ ⟨rfl, fun w => absurd w nm, fun w => absurd w nd, fun _ _ => ⟨rfl, rfl, es⟩⟩ (fun j hj => by rw [pk_un (by omega), pk_un (by omega), pk_un (by omega), pk_un (by omega)])
      refine v_in _ _ _ _ _ ⟨fun y8 => ⟨fun a M8 q8 => ?_, fun a => ⟨fun b M8 q8 => ?_, fun b M8 q8 => ?_⟩⟩, fun y8 M8 q8 => ?_⟩
      · have y8 : wi (l i) 97 122 = 0 := y8
        have a : l i = 59 := a
        rw [q8, mu_ms]
        exact go _ (by rw [if_neg (fun w => w y8), if_pos (Or.inl a)])
      · have y8 : wi (l i) 97 122 = 0 := y8
        have b : l i = 44 := b
        rw [q8, mu_ms]
        exact go _ (by rw [if_neg (fun w => w y8), if_pos (Or.inr b)])
      · have y8 : wi (l i) 97 122 = 0 := y8
        have a : ¬ l i = 59 := a
        have b : ¬ l i = 44 := b
        rw [q8, mu_ms]
        exact go _ (by rw [if_neg (fun w => w y8), if_neg (fun w => w.elim a b)])
      · have y8 : ¬ wi (l i) 97 122 = 0 := y8
        rw [q8, mu_ms]
        exact go _ (by rw [if_pos y8])
    · have hd : fgr (l i) := Classical.byContradiction fun w => y ((wi_fgr (l i)).mpr w)
      refine r_digits hT3 rfl e15 hi hd Φ (fun f f16 ff g1 g2 => ?_)
      rw [ms_ms]
      refine k f ⟨f16, fun w => absurd w nm, fun _ => ⟨g1, g2⟩, fun _ w => absurd hd w⟩ (fun j hj => ?_)
      rw [ff j hj]
      show upd (upd (M 39) 16 (nI i)) 18 (l i) j = M 39 j
      rw [pk_un (by omega), pk_un (by omega)]
  · have z : ¬ 0 ≤ l i := z
    have hN : N ≤ i := by
      rcases Nat.lt_or_ge i N with w | w
      · have b := (h.2.2.1 i w).2
        rw [tI_le, show (0 : Int32).toInt = 0 by decide] at z
        exact absurd b z
      · exact w
    have em := h.2.2.2 i hN
    intro M8 q8
    rw [q8, mu_ms]
    refine k _ ⟨rfl, fun _ => ⟨rfl, e15⟩, fun w => ?_, fun w => absurd em w⟩ (fun j hj => by rw [pk_un (by omega), pk_un (by omega), pk_un (by omega)])
    rw [em] at w
    exact absurd w (by decide)
theorem FrR.f39 (hF : FrR M0 M) {f : Nat → Int32} (ff : ∀ j, j < 15 ∨ 19 < j → f j = M 39 j) : FrR M0 (ms M 39 f) := by
  refine ⟨fun k h1 h2 => ?_, fun j hj => ?_⟩
  · unfold ms; rw [if_neg h1]; exact hF.1 k h1 h2
  · show f j = M0 39 j
    rw [ff j hj]; exact hF.2 j hj
theorem FrR.bad (hF : FrR M0 M) (x : Int32) : FrR M0 (mu M 39 19 x) := hF.f39 (fun j hj => by rw [pk_un (by omega)])
theorem FrR.f45 (hF : FrR M0 M) (f : Nat → Int32) : FrR M0 (ms M 45 f) := by
  refine ⟨fun k h1 h2 => ?_, hF.2⟩
  unfold ms; rw [if_neg h2]; exact hF.1 k h1 h2
theorem r_stepS (hF : FrR M0 M) (hT : TQ M N l) {j : Nat} (e15 : M 39 15 = nI j) (hj : j ≤ N) (e19 : M 39 19 = 0) (e45 : M 45 = v) (Φ : Mm → Prop) (k : ∀ M', RS M0 M' N l j v → Φ M') : S_R_step M Φ := by
  have h80 := hT.2.1
  refine r_step hT e15 (by omega) Φ (fun f hK ff => k _ ⟨hF.f39 (fun j hj => ff j (by omega)), ⟨?_, hT.2⟩, hK, ?_, e45, hj⟩)
  · show f 13 = nI N
    rw [ff 13 (by omega)]; exact hT.1
  · show f 19 = 0
    rw [ff 19 (by omega)]; exact e19
theorem r_due1 (e19 : M 39 19 = 0) {a : Int32} (ha : ¬ a = 0) (w : Int32) (Φ : Mm → Prop) (k : S_R_step M Φ) : S_R_due M a w Φ := ht e19 (sk ha k)
theorem r_due0 (e19 : M 39 19 = 0) {a : Int32} (ha : a = 0) (w : Int32) (Φ : Mm → Prop) (k : Φ (mu M 39 19 w)) : S_R_due M a w Φ := ht e19 (ht ha (fun M3 q => by rw [q]; exact k))
theorem r_dueX (e19 : ¬ M 39 19 = 0) (a w : Int32) (Φ : Mm → Prop) (k : Φ M) : S_R_due M a w Φ := sk e19 k
/-- what a TOKEN is -/
theorem TK.cases {f : Nat → Int32} {i : Nat} (h : TK l f i) : (l i = -1 ∧ f 17 = 3 ∧ f 15 = nI i) ∨ (fgr (l i) ∧ (f 17 = 4 ∨ f 17 = 1)) ∨ (¬ l i = -1 ∧ ¬ fgr (l i) ∧ f 15 = nI (i + 1) ∧ f 18 = l i ∧ f 17 = (if ¬ wi (l i) 97 122 = 0 then 0 else if l i = 59 ∨ l i = 44 then 2 else 4)) := by
  obtain ⟨h1, h2, h3, h4⟩ := h
  by_cases z : l i = -1
  · exact Or.inl ⟨z, h2 z⟩
  · by_cases y : fgr (l i)
    · refine Or.inr (Or.inl ⟨y, ?_⟩)
      obtain ⟨g1, g2⟩ := h3 y
      by_cases w : fgr (l (i + 1))
      · by_cases u : fgr (l (i + 2))
        · exact Or.inl ((g1 w).1 u)
        · exact Or.inr ((g1 w).2 u).1
      · exact Or.inr (g2 w).1
    · exact Or.inr (Or.inr ⟨z, y, h4 z y⟩)
theorem TK.sign {f : Nat → Int32} {i : Nat} (h : TK l f i) (e : l i = 59) : f 17 = 2 ∧ f 18 = 59 ∧ f 15 = nI (i + 1) := by
  have z : ¬ l i = -1 := by rw [e]; decide
  have y : ¬ fgr (l i) := by rw [e]; decide
  obtain ⟨g1, g2, g3⟩ := h.2.2.2 z y
  rw [e] at g2 g3
  exact ⟨g3.trans (by decide), g2, g1⟩
theorem TK.nosign {f : Nat → Int32} {i : Nat} (h : TK l f i) (e : ¬ l i = 59) (h2 : f 17 = 2) (h8 : f 18 = 59) : False := by
  rcases h.cases with ⟨_, g, _⟩ | ⟨_, g | g⟩ | ⟨_, _, _, g, _⟩
  · rw [g] at h2; exact absurd h2 (by decide)
  · rw [g] at h2; exact absurd h2 (by decide)
  · rw [g] at h2; exact absurd h2 (by decide)
  · rw [g] at h8; exact e h8
theorem TK.letter {f : Nat → Int32} {i : Nat} (h : TK l f i) {c : Int32} (hc : ¬ wi c 97 122 = 0) (hm : ¬ c = -1) (hf : ¬ fgr c) (e : l i = c) : f 17 = 0 ∧ f 18 = c ∧ f 15 = nI (i + 1) := by
  obtain ⟨g1, g2, g3⟩ := h.2.2.2 (by rw [e]; exact hm) (by rw [e]; exact hf)
  rw [e] at g2 g3
  rw [if_pos hc] at g3
  exact ⟨g3, g2, g1⟩
theorem TK.noletter {f : Nat → Int32} {i : Nat} (h : TK l f i) {c : Int32} (e : ¬ l i = c) (h0 : f 17 = 0) (h8 : f 18 = c) : False := by
  rcases h.cases with ⟨_, g, _⟩ | ⟨_, g | g⟩ | ⟨_, _, _, g, _⟩
  · rw [g] at h0; exact absurd h0 (by decide)
  · rw [g] at h0; exact absurd h0 (by decide)
  · rw [g] at h0; exact absurd h0 (by decide)
  · rw [g] at h8; exact e h8
theorem TK.atEnd {f : Nat → Int32} {i : Nat} (h : TK l f i) (e : l i = -1) : f 17 = 3 ∧ f 15 = nI i := h.2.1 e
theorem TK.noEnd {f : Nat → Int32} {i : Nat} (h : TK l f i) (e : ¬ l i = -1) (h3 : f 17 = 3) : False := by
  rcases h.cases with ⟨g, _, _⟩ | ⟨_, g | g⟩ | ⟨_, _, _, _, g⟩
  · exact e g
  · rw [g] at h3; exact absurd h3 (by decide)
  · rw [g] at h3; exact absurd h3 (by decide)
  · rw [g] at h3
    split at h3
    · exact absurd h3 (by decide)
    · split at h3
      · exact absurd h3 (by decide)
      · exact absurd h3 (by decide)
theorem v_isLetter {i : Nat} (hS : RS M0 M N l i v) {c : Int32} (hc : ¬ wi c 97 122 = 0) (hm : ¬ c = -1) (hf : ¬ fgr c) : Val (S_R_isLetter M c) (if l i = c then 1 else 0) := by
  intro Φ k
  obtain ⟨hF, hT, hK, e19, e45, hi⟩ := hS
  refine ht e19 ⟨fun z => ⟨fun y => ?_, fun y => ?_⟩, fun z => ?_⟩
  · rw [if_pos (Classical.byContradiction fun e => hK.noletter e z y)] at k; exact k
  · rw [if_neg (fun e => y (hK.letter hc hm hf e).2.1)] at k; exact k
  · rw [if_neg (fun e => z (hK.letter hc hm hf e).1)] at k; exact k
theorem v_isLetterX (hn : ¬ M 39 19 = 0) (c : Int32) : Val (S_R_isLetter M c) 0 := fun Φ k => sk hn k
/-- a TOKEN that is a NUMBER -/
theorem TK.num {f : Nat → Int32} {i : Nat} (h : TK l f i) (lo hi : Int32) (hl : ∀ j, N ≤ j → l j = -1) : (tnr l lo hi i = (0, 1, i) ∧ ¬ f 17 = 1) ∨ ∃ n x, tnr l lo hi i = rng x lo hi i n ∧ f 17 = 1 ∧ f 15 = nI (i + n) ∧ f 18 = x ∧ i + n ≤ N ∧ n ≤ 2 := by
  have inN : ∀ j, fgr (l j) → j < N := fun j hj => by
    rcases Nat.lt_or_ge j N with w | w
    · exact w
    · rw [hl j w] at hj; exact absurd hj (by decide)
  unfold tnr
  by_cases z : fgr (l i)
  · obtain ⟨g1, g2⟩ := h.2.2.1 z
    have b0 := inN i z
    rw [if_pos z]
    by_cases y : fgr (l (i + 1))
    · have b1 := inN (i + 1) y
      rw [if_pos y]
      by_cases w : fgr (l (i + 2))
      · rw [if_pos w]
        exact Or.inl ⟨rfl, fun e => by rw [(g1 y).1 w] at e; exact absurd e (by decide)⟩
      · rw [if_neg w]
        obtain ⟨a1, a2, a3⟩ := (g1 y).2 w
        exact Or.inr ⟨2, d2 l i, rfl, a1, a2, a3, by omega, by omega⟩
    · rw [if_neg y]
      obtain ⟨a1, a2, a3⟩ := g2 y
      exact Or.inr ⟨1, d1 l i, rfl, a1, a2, a3, by omega, by omega⟩
  · rw [if_neg z]
    refine Or.inl ⟨rfl, fun e => ?_⟩
    rcases h.cases with ⟨_, g, _⟩ | ⟨g, _⟩ | ⟨_, _, _, _, g⟩
    · rw [g] at e; exact absurd e (by decide)
    · exact z g
    · rw [g] at e
      split at e
      · exact absurd e (by decide)
      · split at e
        · exact absurd e (by decide)
        · exact absurd e (by decide)
theorem r_t25X (hn : ¬ M 39 19 = 0) (lo hi x : Int32) (Φ : Int32 → Mm → Prop) (k : Φ x M) : D_R_told_25 Φ (lo, hi, x, M) := by
  rw [D_R_told_25]
  exact v_in _ _ _ _ _ (r_dueX hn _ _ _ ⟨fun _ => ⟨fun _ => r_dueX hn _ _ _ k, fun _ => r_dueX hn _ _ _ k⟩, fun _ => r_dueX hn _ _ _ k⟩)
theorem r_toldX (hn : ¬ M 39 19 = 0) (lo hi : Int32) (Φ : Int32 → Mm → Prop) (k : Φ (M 39 18) M) : S_R_told M lo hi Φ := sk hn (r_t25X hn _ _ _ _ k)
theorem r_told {i : Nat} (hS : RS M0 M N l i v) (lo hi : Int32) (Φ : Int32 → Mm → Prop) (k0 : (num l lo hi i).2.1 = 0 → ∀ M', RS M0 M' N l (num l lo hi i).2.2 v → Φ (num l lo hi i).1 M') (k1 : ¬ (num l lo hi i).2.1 = 0 → ∀ x M', RX M0 M' (num l lo hi i).2.1 (num l lo hi i).2.2 → Φ x M') : S_R_told M lo hi Φ := by
  obtain ⟨hF, hT, hK, e19, e45, hi8⟩ := hS
  have ne1 : ¬ (1 : Int32) = 0 := by decide
  have ne2 : ¬ (2 : Int32) = 0 := by decide
  refine ht e19 ?_
  unfold num at k0 k1
  rcases hK.num lo hi hT.2.2.2 with ⟨et, e17⟩ | ⟨n, x, et, e17, e15, e18, hn, hn2⟩
  · have n1 : ¬ ((0 : Int32), (1 : Nat), i).2.1 = 0 := fun w => absurd (show (1 : Nat) = 0 from w) (by decide)
    rw [et, if_neg n1] at k1
    refine sk e17 (fun M3 q3 => ?_)
    rw [q3]
    exact r_t25X (M := mu M 39 19 1) ne1 _ _ _ _ (k1 n1 _ _ ⟨hF.bad 1, rfl, ne1, hK.1⟩)
  · rw [et] at k0 k1
    unfold rng at k0 k1
    refine ht e17 ?_
    rw [D_R_told_25, e18]
    refine v_in _ _ _ _ _ ?_
    by_cases z : wi x lo hi = 0
    · rw [if_pos z] at k1
      have n2 : ¬ (x, (2 : Nat), i).2.1 = 0 := fun w => absurd (show (2 : Nat) = 0 from w) (by decide)
      rw [if_neg n2] at k1
      have hd : ∀ a, S_R_due (mu M 39 19 2) a 1 (fun M3 => Φ x M3) := fun a => r_dueX (M := mu M 39 19 2) ne2 _ _ _ (k1 n2 _ _ ⟨hF.bad 2, rfl, ne2, hK.1⟩)
      exact r_due0 e19 z _ _ ⟨fun _ => ⟨fun _ => hd 1, fun _ => hd 0⟩, fun _ => hd 0⟩
    · rw [if_neg z] at k0 k1
      rw [if_pos (show (x, (0 : Nat), i + n).2.1 = 0 from rfl)] at k0 k1
      refine r_due1 e19 z _ _ (r_stepS hF hT e15 hn e19 e45 _ (fun M' hS' => ?_))
      obtain ⟨hF', hT', hK', e19', e45', hi'⟩ := hS'
      by_cases y : l (i + n) = 59
      · have y' : l (x, (0 : Nat), i + n).2.2 = 59 := y
        rw [if_pos y'] at k0
        obtain ⟨s17, s18, s15⟩ := hK'.sign y
        have hlt : i + n < N := by
          rcases Nat.lt_or_ge (i + n) N with w | w
          · exact w
          · rw [hT.2.2.2 _ w] at y; exact absurd y (by decide)
        exact ht s17 (ht s18 (r_due1 e19' ne1 _ _ (r_stepS hF' hT' s15 hlt e19' e45' _ (k0 rfl))))
      · have y' : ¬ l (x, (0 : Nat), i + n).2.2 = 59 := y
        rw [if_neg y'] at k1
        have hd : S_R_due M' 0 1 (fun M3 => Φ x M3) := r_due0 e19' rfl _ _ (k1 (fun w => absurd (show (1 : Nat) = 0 from w) (by decide)) _ _ ⟨hF'.bad 1, rfl, ne1, hK'.1⟩)
        exact ⟨fun s17 => ⟨fun s18 => absurd (hK'.nosign y s17 s18) id, fun _ => hd⟩, fun _ => hd⟩
end Told
