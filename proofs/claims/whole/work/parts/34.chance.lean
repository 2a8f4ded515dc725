/-! chance -/
section Chance
variable {M : Mm}
theorem euc {a b : Nat} (hb : 0 < b) (hr : ¬ a % b = 0) {k : Nat} (h : b < 2 ^ (k + 1)) : b % (a % b) < 2 ^ k := by
  have h1 : a % b < b := Nat.mod_lt _ hb
  have h2 : b % (a % b) < a % b := Nat.mod_lt _ (by omega)
  have h3 := Nat.div_add_mod b (a % b)
  have h4 : 1 ≤ b / (a % b) := Nat.div_pos (by omega) (by omega)
  have h5 : a % b ≤ (a % b) * (b / (a % b)) := Nat.le_mul_of_pos_right _ h4
  have h6 : 2 ^ (k + 1) = 2 * 2 ^ k := by rw [Nat.pow_succ]; omega
  omega
theorem irm_nI {a b : Nat} (ha : a < 2 ^ 31) (hb : 0 < b) (hb2 : b < 2 ^ 31) : irm (nI a) (nI b) = nI (a % b) := pk_rem ha hb hb2
theorem nI_non0 {b : Nat} (hb : 0 < b) (hb2 : b < 2 ^ 31) : ¬ nI b = 0 := fun z => by
  have := (nI_inj (b := 0) hb2 (by decide)).mp z
  omega
theorem cd_end {Φ : Int32 → Prop} {a s : Nat} (hs : s < 64) (ha : 0 < a) (ha2 : a < 2 ^ 31) (h : Φ (nI a)) {rec : Int32 × Int32 × Int32 → Prop} : D_commonDivisor_7 M Φ rec (nI a, nI 0, nI s) := by
  have g := nI_toInt ha2
  have e1 : (1 : Int32).toInt = 1 := by decide
  refine ⟨fun z => absurd z (nle 64 hs (by decide)), fun _ => ⟨fun _ => ⟨fun z => h, fun z => ?_⟩, fun z => absurd rfl z⟩⟩
  rw [tI_lt, e1, g] at z
  obtain rfl : a = 1 := by omega
  exact h
theorem cd_step {Φ : Int32 → Prop} {a b s : Nat} (hs : s < 64) (ha2 : a < 2 ^ 31) (hb : 0 < b) (hb2 : b < 2 ^ 31) {rec : Int32 × Int32 × Int32 → Prop} (h : rec (nI b, nI (a % b), nI (s + 1))) : D_commonDivisor_7 M Φ rec (nI a, nI b, nI s) := by
  refine ⟨fun z => absurd z (nle 64 hs (by decide)), fun _ => ⟨fun z => absurd z (nI_non0 hb hb2), fun z => ⟨z, ?_⟩⟩⟩
  rw [irm_nI ha2 hb hb2, nI_inc]; exact h
theorem cd_loop {Φ : Int32 → Prop} : ∀ (k a b s : Nat), b < 2 ^ k → a < 2 ^ 31 → b < 2 ^ 31 → 0 < a + b → s + 2 * k ≤ 60 → Φ (nI (Nat.gcd a b)) → ∃ n, lp (D_commonDivisor_7 M Φ) n (nI a, nI b, nI s)
  | 0, a, b, s, h1, h2, h3, h4, h5, hΦ => by
    obtain rfl : b = 0 := by omega
    rw [Nat.gcd_zero_right] at hΦ
    exact ⟨1, cd_end (by omega) (by omega) h2 hΦ⟩
  | k + 1, a, b, s, h1, h2, h3, h4, h5, hΦ => by
    by_cases hb : b = 0
    · subst hb
      rw [Nat.gcd_zero_right] at hΦ
      exact ⟨1, cd_end (by omega) (by omega) h2 hΦ⟩
    · have hb0 : 0 < b := by omega
      have hm : a % b < b := Nat.mod_lt _ hb0
      rw [Nat.gcd_comm, Nat.gcd_rec] at hΦ
      rw [Nat.gcd_comm] at hΦ
      by_cases hr : a % b = 0
      · rw [hr, Nat.gcd_zero_right] at hΦ
        refine ⟨2, cd_step (by omega) h2 hb0 h3 ?_⟩
        rw [hr]
        exact cd_end (by omega) hb0 h3 hΦ
      · have hm2 : b % (a % b) < a % b := Nat.mod_lt _ (by omega)
        rw [Nat.gcd_comm, Nat.gcd_rec] at hΦ
        rw [Nat.gcd_comm] at hΦ
        obtain ⟨n, hn⟩ := cd_loop k (a % b) (b % (a % b)) (s + 2) (euc hb0 hr h1) (by omega) (by omega) (by omega) (by omega) hΦ
        exact ⟨n + 2, cd_step (by omega) h2 hb0 h3 (cd_step (by omega) h3 (by omega) (by omega) hn)⟩
theorem rd_end {Φ : Int32 → Prop} {w u d : Int32} {a : Nat} (ha : 0 < a) (ha2 : a < 2 ^ 31) (h : Φ (if w = 0 then u / nI a else d / nI a)) {rec : Int32 × Int32 × Int32 × Int32 × Int32 → Prop} : D_R_chance_172 M Φ rec (w, u, d, nI a, nI 0) := by
  refine ⟨fun _ => ⟨fun z => ⟨nI_non0 ha ha2, ?_⟩, fun z => ⟨nI_non0 ha ha2, ?_⟩⟩, fun z => absurd rfl z⟩
  · rw [if_pos z] at h; exact h
  · rw [if_neg z] at h; exact h
theorem rd_step {Φ : Int32 → Prop} {w u d : Int32} {a b : Nat} (ha2 : a < 2 ^ 31) (hb : 0 < b) (hb2 : b < 2 ^ 31) {rec : Int32 × Int32 × Int32 × Int32 × Int32 → Prop} (h : rec (w, u, d, nI b, nI (a % b))) : D_R_chance_172 M Φ rec (w, u, d, nI a, nI b) := by
  refine ⟨fun z => absurd z (nI_non0 hb hb2), fun z => ⟨z, ?_⟩⟩
  rw [irm_nI ha2 hb hb2]; exact h
theorem rd_loop {Φ : Int32 → Prop} {w u d : Int32} : ∀ (b a : Nat), a < 2 ^ 31 → b < 2 ^ 31 → 0 < a + b → Φ (if w = 0 then u / nI (Nat.gcd a b) else d / nI (Nat.gcd a b)) → ∃ n, lp (D_R_chance_172 M Φ) n (w, u, d, nI a, nI b) := by
  intro b
  induction b using Nat.strongRecOn with
  | _ b ih =>
    intro a h2 h3 h4 hΦ
    by_cases hb : b = 0
    · subst hb
      rw [Nat.gcd_zero_right] at hΦ
      exact ⟨1, rd_end (by omega) h2 hΦ⟩
    · have hb0 : 0 < b := by omega
      have hm : a % b < b := Nat.mod_lt _ hb0
      have eg : Nat.gcd a b = Nat.gcd b (a % b) := by rw [Nat.gcd_comm a b, Nat.gcd_rec b a, Nat.gcd_comm]
      rw [eg] at hΦ
      obtain ⟨n, hn⟩ := ih (a % b) hm b h3 (by omega) (by omega) hΦ
      exact ⟨n + 1, rd_step h2 hb0 h3 hn⟩
/-- tenths -/
def stp (s : Int32) : Int32 := if s ≤ 6 then s + 3 else 9
def Tn (v : Nat → Int32) (r c cc : Nat) (j : Nat) : Nat := (if v 0 < ldv v r c (v (23 + j)) then 0 else 10 - cc) + (if v 0 < ldv v r c (stp (v (23 + j))) then 0 else cc)
def An (v : Nat → Int32) (r c cc p : Nat) : Nat → Nat
  | 0 => 1
  | j + 1 => An v r c cc p j * Tn v r c cc (p + j)
theorem Tn_le (v : Nat → Int32) (r c : Nat) {cc : Nat} (h : cc ≤ 10) (j : Nat) : Tn v r c cc j ≤ 10 := by
  unfold Tn; split <;> split <;> omega
theorem An_le (v : Nat → Int32) (r c : Nat) {cc : Nat} (h : cc ≤ 10) (p : Nat) : ∀ j, An v r c cc p j ≤ 10 ^ j
  | 0 => Nat.le_refl 1
  | j + 1 => by
    rw [Nat.pow_succ]
    exact Nat.mul_le_mul (An_le v r c h p j) (Tn_le v r c h _)
theorem v_stp {s : Int32} (h0 : 0 ≤ s.toInt) (h9 : s.toInt ≤ 9) : Val (S_Math_min M 9 (s + 3)) (stp s) := by
  intro Φ h
  have e9 : (9 : Int32).toInt = 9 := by decide
  have e6 : (6 : Int32).toInt = 6 := by decide
  have e3 : (3 : Int32).toInt = 3 := by decide
  have ea : (s + 3).toInt = s.toInt + 3 := by rw [tI_add (by rw [e3]; omega) (by rw [e3]; omega), e3]
  unfold stp at h
  refine ⟨fun z => ?_, fun z => ?_⟩ <;> rw [tI_lt, ea, e9] at z
  · rw [if_pos (by rw [tI_le, e6]; omega)] at h; exact h
  · by_cases q : s ≤ 6
    · rw [if_pos q] at h
      rw [tI_le, e6] at q
      rw [show (9 : Int32) = s + 3 by rw [tI_eq, ea, e9]; omega]; exact h
    · rw [if_neg q] at h; exact h
theorem v_tenths {k : Nat} {v : Nat → Int32} (hR : RelB (M k) (M (k + 1)) (M (k + 2)) (M (k + 3)) (M (k + 4)) (M (k + 5)) v) (hV : VB v) {r c : Nat} (hr : (r : Int) < (v 1).toInt) (hc : (c : Int) < (v 2).toInt) (hr3 : r < 3) (hc6 : c < 6) (hg : ¬ ig v (6 * v 4 + v 5) = 0) (er : (6 * v 4 + v 5) / 6 = nI r) (ec : irm (6 * v 4 + v 5) 6 = nI c) {j cc : Nat} (hj : (j : Int) < (v 3).toInt) (hj6 : j < 6) (hcc : cc ≤ 10) : Val (S_Bike_tenthsBorne k M (nI j) (nI cc)) (nI (Tn v r c cc j)) := by
  intro Φ h
  have r5 := hR.1.2.2.2.2.1
  have r6 := hR.1.2.2.2.2.2.1
  have ea : M k 5 * 6 + M k 6 = 6 * v 4 + v 5 := by rw [r5, r6, Int32.mul_comm]
  have hs := hV.2.2.2 j hj
  have k25 : ∀ x : Nat, Φ (nI (x + (if v 0 < ldv v r c (stp (v (23 + j))) then 0 else cc))) → D_Bike_tenthsBorne_25 k M Φ (nI j, nI cc, nI x) := by
    intro x hx
    rw [D_Bike_tenthsBorne_25]
    unfold S_Bike_gear
    rw [ea, nI_clamp (by omega), hR.2.2.2 j hj]
    refine ⟨vp_in_nI hj6 (by decide), v_stp hs.1 hs.2 _ (v_bears hR hV hg hr hc hr3 hc6 er ec _ ⟨fun q => ?_, fun q => ?_⟩)⟩
    · by_cases z : v 0 < ldv v r c (stp (v (23 + j)))
      · rw [if_pos z] at hx; exact hx
      · rw [if_neg z] at q; exact absurd q (by decide)
    · by_cases z : v 0 < ldv v r c (stp (v (23 + j)))
      · rw [if_pos z] at q; exact absurd rfl q
      · rw [if_neg z] at hx; rw [nI_add]; exact hx
  unfold S_Bike_tenthsBorne S_Bike_gear
  rw [ea, nI_clamp (by omega), hR.2.2.2 j hj]
  unfold Tn at h
  refine ⟨vp_in_nI hj6 (by decide), v_bears hR hV hg hr hc hr3 hc6 er ec _ ⟨fun q => k25 0 ?_, fun q => ?_⟩⟩
  · by_cases z : v 0 < ldv v r c (v (23 + j))
    · rw [if_pos z] at h; exact h
    · rw [if_neg z] at q; exact absurd q (by decide)
  · by_cases z : v 0 < ldv v r c (v (23 + j))
    · rw [if_pos z] at q; exact absurd rfl q
    · rw [if_neg z] at h
      rw [show (10 : Int32) - nI cc = nI (10 - cc) from pk_sub (a := 10) hcc]
      exact k25 _ h
theorem pow6 {j : Nat} (h : j ≤ 6) : 10 ^ j ≤ 1000000 := Nat.pow_le_pow_right (n := 10) (by decide) h
theorem pow0 (j : Nat) : 0 < 10 ^ j := Nat.pow_pos (by decide)
/-- what the chance is -/
def chv (v : Nat → Int32) (r c cc p m : Nat) (w : Int32) : Int32 := if w = 0 then nI (An v r c cc p m) / nI (Nat.gcd (10 ^ m) (An v r c cc p m)) else nI (10 ^ m) / nI (Nat.gcd (10 ^ m) (An v r c cc p m))
theorem v_chanceLoop (hR : RelB (M 7) (M 8) (M 9) (M 10) (M 11) (M 12) (M 44)) (hV : VB (M 44)) {r c : Nat} (hr : (r : Int) < (M 44 1).toInt) (hc : (c : Int) < (M 44 2).toInt) (hr3 : r < 3) (hc6 : c < 6) (hg : ¬ ig (M 44) (6 * M 44 4 + M 44 5) = 0) (er : (6 * M 44 4 + M 44 5) / 6 = nI r) (ec : irm (6 * M 44 4 + M 44 5) 6 = nI c) {cc p n : Nat} (hcc : cc ≤ 10) (hp : M 44 6 = nI p) (hn : M 44 3 = nI n) (hpn : p ≤ n) (hn6 : n ≤ 6) (w : Int32) : Val (fun Φ => ∃ q, lp (D_chance_49 M Φ) q (nI cc, w, 1, 1, nI p)) (chv (M 44) r c cc p (n - p) w) := by
  intro Φ h
  have r3 : M 7 3 = nI n := hR.1.2.2.1.trans hn
  have gn : (M 44 3).toInt = n := by rw [hn]; exact nI_toInt (by omega)
  refine lp_ex (fun q (s : Int32 × Int32 × Int32 × Int32 × Int32) => ∃ j, j + q = n - p ∧ s = (nI cc, w, nI (An (M 44) r c cc p j), nI (10 ^ j), nI (p + j))) ?_ ?_ (i := n - p) ⟨0, by omega, rfl⟩
  · rintro s ⟨j, hj, rfl⟩ rec
    obtain rfl : j = n - p := by omega
    have b1 := pow6 (j := n - p) (by omega)
    have b0 := pow0 (n - p)
    have b2 := An_le (M 44) r c hcc p (n - p)
    have fin : ∀ x : Int32, Φ (x / nI (Nat.gcd (10 ^ (n - p)) (An (M 44) r c cc p (n - p)))) → D_chance_97 M Φ (nI (An (M 44) r c cc p (n - p)), nI (10 ^ (n - p)), x) := by
      intro x hx
      rw [D_chance_97]
      refine cd_loop 20 _ _ 0 (by omega) (by omega) (by omega) (by omega) (by omega) ⟨?_, hx⟩
      refine nI_non0 (Nat.gcd_pos_of_pos_left _ b0) ?_
      have := Nat.gcd_le_left (An (M 44) r c cc p (n - p)) b0
      omega
    rw [D_chance_49, r3]
    refine ⟨fun _ => ⟨fun z => fin _ ?_, fun z => fin _ ?_⟩, fun z => absurd (by rw [tI_le, nI_toInt (by omega), nI_toInt (by omega)]; omega) z⟩
    · unfold chv at h; rw [if_pos z] at h; exact h
    · unfold chv at h; rw [if_neg z] at h; exact h
  · rintro q s ⟨j, hj, rfl⟩ rec hrec
    rw [D_chance_49, r3]
    refine ⟨fun z => absurd z (nle n (by omega) (by omega)), fun _ => v_tenths (k := 7) hR hV hr hc hr3 hc6 hg er ec (j := p + j) (by omega) (by omega) hcc _ (hrec _ ⟨j + 1, by omega, ?_⟩)⟩
    rw [pk_mul, nI_inc]
    rw [show nI (10 ^ j) * 10 = nI (10 ^ j * 10) from pk_mul _ 10]
    rfl
theorem vr_chanceLoop (hV : VB (M 44)) {r c : Nat} (hr : (r : Int) < (M 44 1).toInt) (hc : (c : Int) < (M 44 2).toInt) (hr3 : r < 3) (hc6 : c < 6) (hg : ¬ ig (M 44) (6 * M 44 4 + M 44 5) = 0) (er : (6 * M 44 4 + M 44 5) / 6 = nI r) (ec : irm (6 * M 44 4 + M 44 5) 6 = nI c) {cc p n : Nat} (hcc : cc ≤ 10) (hp : M 44 6 = nI p) (hn : M 44 3 = nI n) (hpn : p ≤ n) (hn6 : n ≤ 6) (w : Int32) : Val (fun Φ => ∃ q, lp (D_R_chance_46 M Φ) q (nI cc, w, 1, 1, nI p)) (chv (M 44) r c cc p (n - p) w) := by
  intro Φ h
  have r3 : M 44 (Int32.toNatClampNeg 3) = nI n := hn
  have gn : (M 44 3).toInt = n := by rw [hn]; exact nI_toInt (by omega)
  have e6 : (6 : Int32).toInt = 6 := by decide
  refine lp_ex (fun q (s : Int32 × Int32 × Int32 × Int32 × Int32) => ∃ j, j + q = n - p ∧ s = (nI cc, w, nI (An (M 44) r c cc p j), nI (10 ^ j), nI (p + j))) ?_ ?_ (i := n - p) ⟨0, by omega, rfl⟩
  · rintro s ⟨j, hj, rfl⟩ rec
    obtain rfl : j = n - p := by omega
    have b1 := pow6 (j := n - p) (by omega)
    have b0 := pow0 (n - p)
    have b2 := An_le (M 44) r c hcc p (n - p)
    rw [D_R_chance_46, r3]
    refine ⟨fun _ => rd_loop _ _ (by omega) (by omega) (by omega) ?_, fun z => absurd (by rw [tI_le, nI_toInt (by omega), nI_toInt (by omega)]; omega) z⟩
    unfold chv at h
    rw [Nat.gcd_comm] at h
    exact h
  · rintro q s ⟨j, hj, rfl⟩ rec hrec
    have e23 : (23 : Int32) + nI (p + j) = nI (23 + (p + j)) := nI8 23 rfl
    have k149 : ∀ x y : Nat, x + y = Tn (M 44) r c cc (p + j) → D_R_chance_149 M Φ rec (nI cc, w, nI (10 ^ j), nI (p + j), nI y, nI x, nI (An (M 44) r c cc p j)) := by
      intro x y exy
      refine hrec _ ⟨j + 1, by omega, ?_⟩
      rw [nI_add, exy, pk_mul, nI_inc]
      rw [show nI (10 ^ j) * 10 = nI (10 ^ j * 10) from pk_mul _ 10]
      rfl
    have k119 : ∀ (x : Nat) (st : Int32), st = stp (M 44 (23 + (p + j))) → x = (if M 44 0 < ldv (M 44) r c (M 44 (23 + (p + j))) then 0 else 10 - cc) → D_R_chance_119 M Φ rec (nI cc, w, nI (10 ^ j), nI (p + j), st, nI x, nI (An (M 44) r c cc p j)) := by
      intro x st est ex
      rw [D_R_chance_119, est]
      unfold S_R_gearOf
      refine vr_loadOf hV hr hc hr3 hc6 er ec _ ⟨fun z => k149 x 0 ?_, fun z => k149 x cc ?_⟩
      · have z : M 44 0 < ldv (M 44) r c (stp (M 44 (23 + (p + j)))) := z
        unfold Tn; rw [if_pos z, ex]
      · have z : ¬ M 44 0 < ldv (M 44) r c (stp (M 44 (23 + (p + j)))) := z
        unfold Tn; rw [if_neg z, ex]
    have k89 : ∀ st : Int32, st = stp (M 44 (23 + (p + j))) → D_R_chance_89 M Φ rec (nI cc, w, nI (An (M 44) r c cc p j), nI (10 ^ j), nI (p + j), st) := by
      intro st est
      rw [D_R_chance_89]
      unfold S_R_gearOf
      refine vr_bears hV hr hc hr3 hc6 er ec (j := p + j) rfl (by omega) _ ⟨fun z => k119 0 st est ?_, fun z => ?_⟩
      · by_cases q : M 44 0 < ldv (M 44) r c (M 44 (23 + (p + j)))
        · rw [if_pos q]
        · rw [if_neg q] at z; exact absurd z (by decide)
      · rw [show (10 : Int32) - nI cc = nI (10 - cc) from pk_sub (a := 10) hcc]
        refine k119 _ st est ?_
        by_cases q : M 44 0 < ldv (M 44) r c (M 44 (23 + (p + j)))
        · rw [if_pos q] at z; exact absurd rfl z
        · rw [if_neg q]
    rw [D_R_chance_46, r3, e23, nI_clamp (by omega)]
    refine ⟨fun z => absurd z (nle n (by omega) (by omega)), fun _ => ⟨vp_in_nI (by omega) (by decide), fun z => ⟨vp_in_nI (by omega) (by decide), k89 _ ?_⟩, fun z => k89 _ ?_⟩⟩
    · unfold stp; rw [if_pos z]
    · unfold stp; rw [if_neg z]
theorem op_chance (hI : Inv M) : Op_chance Inv M := by
  intro a w
  have eT := hI.there
  by_cases h0 : M 39 5 = 0
  · refine op_pure hI (S := S_chance M a w) (v := -1000002) (fun Φ h => ?_) (SR := S_R_chance M a w) (fun Φ h => ?_) (SR' := fun M => S_R_chance M a w) rfl
    · exact ⟨fun _ => h, fun z => absurd (eT.trans h0) z⟩
    · exact ⟨fun _ => h, fun z => absurd h0 z⟩
  by_cases ha : wi a 0 10 = 0
  · refine op_pure hI (S := S_chance M a w) (v := -1000001) (fun Φ h => ?_) (SR := S_R_chance M a w) (fun Φ h => ?_) (SR' := fun M => S_R_chance M a w) rfl
    · exact ⟨fun z => absurd (eT.symm.trans z) h0, fun _ => v_within M _ _ _ _ ⟨fun _ => h, fun z => absurd ha z⟩⟩
    · exact ⟨fun z => absurd z h0, fun _ => v_in M _ _ _ _ ⟨fun _ => h, fun z => absurd ha z⟩⟩
  by_cases hw : wi w 0 1 = 0
  · refine op_pure hI (S := S_chance M a w) (v := -1000001) (fun Φ h => ?_) (SR := S_R_chance M a w) (fun Φ h => ?_) (SR' := fun M => S_R_chance M a w) rfl
    · exact ⟨fun z => absurd (eT.symm.trans z) h0, fun _ => v_within M _ _ _ _ ⟨fun z => absurd z ha, fun _ => v_within M _ _ _ _ ⟨fun _ => h, fun z => absurd hw z⟩⟩⟩
    · exact ⟨fun z => absurd z h0, fun _ => v_in M _ _ _ _ ⟨fun z => absurd z ha, fun _ => v_in M _ _ _ _ ⟨fun _ => h, fun z => absurd hw z⟩⟩⟩
  obtain ⟨hV, hT1⟩ := hI.vb h0
  have hR := hI.bike.1
  have hab := wi_1 ha
  rw [show (0 : Int32).toInt = 0 by decide, show (10 : Int32).toInt = 10 by decide] at hab
  obtain ⟨cc, rfl, hcc⟩ := ix_nI hab.1
  obtain ⟨⟨a1, a2, a3, a4, a5, a6, a7, a8⟩, -⟩ := id hV
  obtain ⟨p, ep, hp⟩ := ix_nI (b := M 44 6) (by omega)
  obtain ⟨n, en, hn⟩ := ix_nI (b := M 44 3) (by omega)
  obtain ⟨hg, r, c, hr, hc, hr3, hc6, er, ec, ev4, ev5⟩ := gear_now hV (a := 6 * M 44 4 + M 44 5) rfl
  have e77 : M 7 7 = nI p := hR.1.2.2.2.2.2.2.1.trans ep
  refine op_pure hI (S := S_chance M (nI cc) w) (v := chv (M 44) r c cc p (n - p) w) (fun Φ h => ?_) (SR := S_R_chance M (nI cc) w) (fun Φ h => ?_) (SR' := fun M => S_R_chance M (nI cc) w) rfl
  · refine ⟨fun z => absurd (eT.symm.trans z) h0, fun _ => v_within M _ _ _ _ ⟨fun z => absurd z ha, fun _ => v_within M _ _ _ _ ⟨fun z => absurd z hw, fun _ => ?_⟩⟩⟩
    rw [e77]
    exact v_chanceLoop hR hV hr hc hr3 hc6 hg er ec (by omega) ep en (by omega) (by omega) w _ h
  · refine ⟨fun z => absurd z h0, fun _ => v_in M _ _ _ _ ⟨fun z => absurd z ha, fun _ => v_in M _ _ _ _ ⟨fun z => absurd z hw, fun _ => ?_⟩⟩⟩
    have ep' : M 44 (Int32.toNatClampNeg 6) = nI p := ep
    rw [ep']
    exact vr_chanceLoop hV hr hc hr3 hc6 hg er ec (by omega) ep en (by omega) (by omega) w _ h
end Chance
