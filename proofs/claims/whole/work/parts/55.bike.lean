/-! bike -/
theorem TF_o {k q j : Nat} {M : Mm} (h : j < k ∨ k + 5 < j) : TF k q M j = M j := by
  unfold TF tf1 mcp mu
  rw [ms_o (by omega), ms_o (by omega), ms_o (by omega), ms_o (by omega), ms_o (by omega), ms_o (by omega), ms_o (by omega), ms_o (by omega), ms_o (by omega), ms_o (by omega), ms_o (by omega), ms_o (by omega), ms_o (by omega), ms_o (by omega)]
def ltr (b : Nat → Int32) (N : Nat) : Nat → Int32 := fun i => if i < N then b i else -1
section BikeOp
variable {M : Mm}
theorem op_bike (hI : Inv M) : Op_bike Inv M := by
  intro Φ k
  obtain ⟨t1, t2, t3⟩ := hI.2.1
  obtain ⟨N, eN, hN⟩ := ix_nI t2.1
  obtain ⟨eac, s0, p0, hs0, hp0, es0, ep0, ht0, hrec0⟩ := hI.acts
  have e0 : (0 : Int32).toInt = 0 := by decide
  have hTP : TP M N (ltr (M 6) N) := ⟨t1.trans eN, by omega, fun i hi => by unfold ltr; rw [if_pos hi], fun i hi => by unfold ltr; rw [if_neg (by omega)]⟩
  have hz : ∀ j, j < 35 → zr (M 45) 35 j = 0 := fun j hj => zr_z _ hj
  have hTQ : ∀ M1 : Mm, M1 39 = M 39 → M1 49 = M 49 → TQ M1 N (ltr (M 6) N) := fun M1 h1 h2 => ⟨by rw [h1]; exact eN, by omega, fun i hi => by
    rw [h2]
    have q := t3 i (by omega)
    unfold ltr
    rw [if_pos hi]
    exact ⟨q.1.symm, q.2.1⟩, hTP.2.2.2⟩
  generalize hl : ltr (M 6) N = l at hTP hTQ
  refine c_read hz hTP (fun z M' r c p hr hc hp hF h51 h53 h130 hB hP M2 q2 => ?_) (fun z M' hX M2 q2 => ?_)
  · rw [q2]
    refine ht h53 (v_takeFrom (M := mu M' 5 1 0) 7 13 (Or.inr h130) _ (fun M5 q5 => ?_))
    have hcell : ∀ j, j < 5 ∨ j = 6 ∨ (18 < j ∧ ¬ j = 32) → M5 j = M j := fun j hj => by
      rw [q5]
      unfold mu
      rw [ms_o (by omega), TF_o (by omega), ms_o (by omega)]
      exact hF j (by omega)
    have hrel : RelB (M5 7) (M5 8) (M5 9) (M5 10) (M5 11) (M5 12) (prs l (zr (M 45) 35)).2.2 ∧ VB (prs l (zr (M 45) 35)).2.2 := by
      rw [q5]
      exact relB_copy (f' := TF 7 13 (mu M' 5 1 0) 7) (v' := (prs l (zr (M 45) 35)).2.2) (hB.rel hP) (hP.vb hr hc hp) ⟨rfl, rfl, rfl, rfl, rfl, rfl, rfl, rfl⟩ (cpy00 (M' 14) (M' 8) (n := 3)) (cpy00 (M' 15) (M' 9) (n := 6)) (cpy00 (M' 16) (M' 10) (n := 6)) (cpy00 (M' 17) (M' 11) (n := 6)) (cpy00 (M' 18) (M' 12) (n := 6)) (fun _ _ => rfl)
    have a51 : M5 5 1 = 0 := by rw [q5]; rfl
    have a321 : M5 32 1 = 0 := by rw [q5]; rfl
    have a322 : M5 32 2 = M 32 2 := by
      rw [← hF 32 (by omega), q5]; rfl
    have a70 : M5 7 0 = 1 := by rw [q5]; exact h130
    have ans : M5 7 2 = (prs l (zr (M 45) 35)).2.2 2 := hrel.1.1.2.1
    show Φ (M5 7 2) M5
    rw [ans]
    refine k _ M5 ⟨hcell 63 (by omega), hcell 64 (by omega)⟩ (fun Ψ hΨ => ?_)
    have hb := r_bike (M := M5) (Φ := Ψ) (hTQ M5 (hcell 39 (by omega)) (hcell 49 (by omega)))
    rw [hcell 45 (by omega)] at hb
    refine hb (fun _ M2 hG => ?_) (fun w => absurd z w)
    clear hb
    generalize prs l (zr (M 45) 35) = t at *
    obtain ⟨g1, g2, ⟨g5, g9, g13⟩, g44⟩ := hG
    have hk : ∀ j, j < 5 ∨ j = 6 ∨ (18 < j ∧ ¬ j = 32) → ¬ j = 39 → ¬ j = 44 → ¬ j = 45 → M2 j = M j := fun j a b c d => (g1 j b c d).trans (hcell j a)
    have h39 : ∀ j, (j < 13 ∨ j = 14 ∨ 19 < j) → ¬ j = 5 → ¬ j = 9 → M2 39 j = M 39 j := fun j a b c => by rw [g2 j a b c, hcell 39 (by omega)]
    have hrel2 := relB_copy (v' := M2 44) hrel.1 hrel.2 ⟨rfl, rfl, rfl, rfl, rfl, rfl, rfl, rfl⟩ (fun _ _ => rfl) (fun _ _ => rfl) (fun _ _ => rfl) (fun _ _ => rfl) (fun _ _ => rfl) g44
    refine hΨ M2 ⟨?_, ⟨?_, ?_, ?_⟩, ?_, ⟨?_, ?_, ?_⟩, ?_, ⟨?_, ?_⟩, ?_, ?_, fun _ => g5⟩ ⟨hk 63 (by omega) (by omega) (by omega) (by omega), hk 64 (by omega) (by omega) (by omega) (by omega)⟩
    · rw [hk 0 (by omega) (by omega) (by omega) (by omega), hk 2 (by omega) (by omega) (by omega) (by omega), hk 3 (by omega) (by omega) (by omega) (by omega), hk 4 (by omega) (by omega) (by omega) (by omega), hk 40 (by omega) (by omega) (by omega) (by omega), hk 41 (by omega) (by omega) (by omega) (by omega), hk 42 (by omega) (by omega) (by omega) (by omega), h39 3 (by omega) (by omega) (by omega)]
      exact hI.1
    · rw [g1 5 (by omega) (by omega) (by omega), g13]; exact a51
    · rw [g13]; decide
    · intro i hi
      rw [g13, e0] at hi
      omega
    · rw [hk 0 (by omega) (by omega) (by omega) (by omega), h39 14 (by omega) (by omega) (by omega)]
      exact hI.2.2.1
    · rw [g1 7 (by omega) (by omega) (by omega), g1 8 (by omega) (by omega) (by omega), g1 9 (by omega) (by omega) (by omega), g1 10 (by omega) (by omega) (by omega), g1 11 (by omega) (by omega) (by omega), g1 12 (by omega) (by omega) (by omega)]
      exact hrel2.1
    · rw [g1 7 (by omega) (by omega) (by omega), g5]; exact a70
    · exact Or.inl ⟨g5, hrel2.2⟩
    · rw [g1 32 (by omega) (by omega) (by omega), g9]
      exact ⟨a321, 0, p0, by omega, hp0, rfl, a322.trans ep0, fun w => absurd w (by omega), fun i hi => absurd hi (by omega)⟩
    · rw [hk 20 (by omega) (by omega) (by omega) (by omega), hk 21 (by omega) (by omega) (by omega) (by omega), hk 22 (by omega) (by omega) (by omega) (by omega), hk 23 (by omega) (by omega) (by omega) (by omega), hk 24 (by omega) (by omega) (by omega) (by omega), hk 25 (by omega) (by omega) (by omega) (by omega), hk 47 (by omega) (by omega) (by omega) (by omega), hk 48 (by omega) (by omega) (by omega) (by omega)]
      exact hI.2.2.2.2.2.1.1
    · rw [hk 26 (by omega) (by omega) (by omega) (by omega), hk 27 (by omega) (by omega) (by omega) (by omega), hk 28 (by omega) (by omega) (by omega) (by omega), hk 29 (by omega) (by omega) (by omega) (by omega), hk 30 (by omega) (by omega) (by omega) (by omega), hk 31 (by omega) (by omega) (by omega) (by omega), hk 47 (by omega) (by omega) (by omega) (by omega), hk 48 (by omega) (by omega) (by omega) (by omega)]
      exact hI.2.2.2.2.2.1.2
    · rw [hk 37 (by omega) (by omega) (by omega) (by omega), hk 38 (by omega) (by omega) (by omega) (by omega), hk 51 (by omega) (by omega) (by omega) (by omega), h39 22 (by omega) (by omega) (by omega)]
      exact hI.2.2.2.2.2.2.1
    · rw [hk 60 (by omega) (by omega) (by omega) (by omega), hk 61 (by omega) (by omega) (by omega) (by omega), hk 62 (by omega) (by omega) (by omega) (by omega)]
      exact hI.2.2.2.2.2.2.2.1
  · obtain ⟨hF, hT, h3, h4, hn⟩ := hX
    rw [q2]
    refine sk hn (fun M6 q6 => ?_)
    have hcell : ∀ j, (0 < j ∧ j < 5) ∨ (5 < j ∧ j < 13) ∨ 18 < j → M6 j = M j := fun j hj => by
      rw [q6]
      unfold mu
      rw [ms_o (by omega), ms_o (by omega)]
      exact hF j (by omega)
    have a08 : M6 0 8 = M 0 8 := by
      rw [← hF 0 (by omega), q6]; rfl
    have a09 : M6 0 9 = nI (prs l (zr (M 45) 35)).1 := by rw [q6]; exact h3
    have a51 : M6 5 1 = 0 := by rw [q6]; rfl
    have a54 : M6 5 4 = nI (prs l (zr (M 45) 35)).2.1 := by rw [q6]; exact h4
    rw [a54]
    refine k _ M6 ⟨hcell 63 (by omega), hcell 64 (by omega)⟩ (fun Ψ hΨ => ?_)
    have hb := r_bike (M := M6) (Φ := Ψ) (hTQ M6 (hcell 39 (by omega)) (hcell 49 (by omega)))
    rw [hcell 45 (by omega)] at hb
    refine hb (fun w => absurd w z) (fun _ M2 hG => ?_)
    clear hb
    generalize prs l (zr (M 45) 35) = t at *
    obtain ⟨g1, g2, g13, g14⟩ := hG
    have hk : ∀ j, (0 < j ∧ j < 5) ∨ (5 < j ∧ j < 13) ∨ 18 < j → ¬ j = 39 → ¬ j = 45 → M2 j = M j := fun j a b c => (g1 j b c).trans (hcell j a)
    have h39 : ∀ j, (j < 13 ∨ 19 < j) → M2 39 j = M 39 j := fun j a => by rw [g2 j a, hcell 39 (by omega)]
    refine hΨ M2 ⟨?_, ⟨?_, ?_, ?_⟩, ?_, ?_, ?_, ⟨?_, ?_⟩, ?_, ?_, ?_⟩ ⟨hk 63 (by omega) (by omega) (by omega), hk 64 (by omega) (by omega) (by omega)⟩
    · rw [g1 0 (by omega) (by omega), a08, hk 2 (by omega) (by omega) (by omega), hk 3 (by omega) (by omega) (by omega), hk 4 (by omega) (by omega) (by omega), hk 40 (by omega) (by omega) (by omega), hk 41 (by omega) (by omega) (by omega), hk 42 (by omega) (by omega) (by omega), h39 3 (by omega)]
      exact hI.1
    · rw [g1 5 (by omega) (by omega), g13]; exact a51
    · rw [g13]; decide
    · intro i hi
      rw [g13, e0] at hi
      omega
    · rw [g1 0 (by omega) (by omega), g14]; exact a09
    · rw [hk 7 (by omega) (by omega) (by omega), hk 8 (by omega) (by omega) (by omega), hk 9 (by omega) (by omega) (by omega), hk 10 (by omega) (by omega) (by omega), hk 11 (by omega) (by omega) (by omega), hk 12 (by omega) (by omega) (by omega), hk 44 (by omega) (by omega) (by omega), h39 5 (by omega)]
      exact hI.bike
    · rw [hk 32 (by omega) (by omega) (by omega), hk 33 (by omega) (by omega) (by omega), hk 46 (by omega) (by omega) (by omega), hk 44 (by omega) (by omega) (by omega), h39 9 (by omega), h39 5 (by omega)]
      exact hI.acts
    · rw [hk 20 (by omega) (by omega) (by omega), hk 21 (by omega) (by omega) (by omega), hk 22 (by omega) (by omega) (by omega), hk 23 (by omega) (by omega) (by omega), hk 24 (by omega) (by omega) (by omega), hk 25 (by omega) (by omega) (by omega), hk 47 (by omega) (by omega) (by omega), hk 48 (by omega) (by omega) (by omega)]
      exact hI.2.2.2.2.2.1.1
    · rw [hk 26 (by omega) (by omega) (by omega), hk 27 (by omega) (by omega) (by omega), hk 28 (by omega) (by omega) (by omega), hk 29 (by omega) (by omega) (by omega), hk 30 (by omega) (by omega) (by omega), hk 31 (by omega) (by omega) (by omega), hk 47 (by omega) (by omega) (by omega), hk 48 (by omega) (by omega) (by omega)]
      exact hI.2.2.2.2.2.1.2
    · rw [hk 37 (by omega) (by omega) (by omega), hk 38 (by omega) (by omega) (by omega), hk 51 (by omega) (by omega) (by omega), h39 22 (by omega)]
      exact hI.2.2.2.2.2.2.1
    · rw [hk 60 (by omega) (by omega) (by omega), hk 61 (by omega) (by omega) (by omega), hk 62 (by omega) (by omega) (by omega)]
      exact hI.2.2.2.2.2.2.2.1
    · rw [hk 48 (by omega) (by omega) (by omega), h39 5 (by omega)]
      exact hI.2.2.2.2.2.2.2.2
end BikeOp
