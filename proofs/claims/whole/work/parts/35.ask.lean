/-! ask -/
theorem sk {p q r : Prop} (h : ¬ p) (k : r) : (p → q) ∧ (¬ p → r) := ⟨fun z => absurd z h, fun _ => k⟩
theorem ht {p q r : Prop} (h : p) (k : q) : (p → q) ∧ (¬ p → r) := ⟨fun _ => k, fun z => absurd h z⟩
def Lc (M : Mm) (n : Nat) (x : Int32) : Mm := mu (mu M 38 n x) 37 1 (nI (n + 1))
def lvC (M : Mm) (n : Nat) : List Int32 → Mm
  | [] => M
  | x :: l => lvC (Lc M n x) (n + 1) l
def Lr (M : Mm) (n : Nat) (x : Int32) : Mm := mu (mu M 51 n x) 39 22 (nI (n + 1))
def lvR (M : Mm) (n : Nat) : List Int32 → Mm
  | [] => M
  | x :: l => lvR (Lr M n x) (n + 1) l
def wr (f : Nat → Int32) (n : Nat) : List Int32 → Nat → Int32
  | [] => f
  | x :: l => wr (upd f n x) (n + 1) l
theorem lvC_app (l1 l2 : List Int32) : ∀ (M : Mm) (n : Nat), lvC (lvC M n l1) (n + l1.length) l2 = lvC M n (l1 ++ l2) := by
  induction l1 with
  | nil => intro M n; rfl
  | cons x l1 ih =>
    intro M n
    have := ih (Lc M n x) (n + 1)
    rw [show n + 1 + l1.length = n + (x :: l1).length by simp only [List.length_cons]; omega] at this
    exact this
theorem lvC_37 (l : List Int32) : ∀ (M : Mm) (n : Nat), M 37 1 = nI n → lvC M n l 37 1 = nI (n + l.length) := by
  induction l with
  | nil => intro M n h; exact h
  | cons x l ih =>
    intro M n h
    have := ih (Lc M n x) (n + 1) rfl
    rw [show n + 1 + l.length = n + (x :: l).length by simp only [List.length_cons]; omega] at this
    exact this
theorem lvR_app (l1 l2 : List Int32) : ∀ (M : Mm) (n : Nat), lvR (lvR M n l1) (n + l1.length) l2 = lvR M n (l1 ++ l2) := by
  induction l1 with
  | nil => intro M n; rfl
  | cons x l1 ih =>
    intro M n
    have := ih (Lr M n x) (n + 1)
    rw [show n + 1 + l1.length = n + (x :: l1).length by simp only [List.length_cons]; omega] at this
    exact this
theorem lvR_22 (l : List Int32) : ∀ (M : Mm) (n : Nat), M 39 22 = nI n → lvR M n l 39 22 = nI (n + l.length) := by
  induction l with
  | nil => intro M n h; exact h
  | cons x l ih =>
    intro M n h
    have := ih (Lr M n x) (n + 1) rfl
    rw [show n + 1 + l.length = n + (x :: l).length by simp only [List.length_cons]; omega] at this
    exact this
theorem lvC_ne (l : List Int32) {j : Nat} (h1 : ¬ j = 37) (h2 : ¬ j = 38) : ∀ (M : Mm) (n : Nat), lvC M n l j = M j := by
  induction l with
  | nil => intro M n; rfl
  | cons x l ih =>
    intro M n
    rw [lvC, ih]; unfold Lc; rw [mu_ne _ _ _ h1, mu_ne _ _ _ h2]
theorem lvR_ne (l : List Int32) {j : Nat} (h1 : ¬ j = 39) (h2 : ¬ j = 51) : ∀ (M : Mm) (n : Nat), lvR M n l j = M j := by
  induction l with
  | nil => intro M n; rfl
  | cons x l ih =>
    intro M n
    rw [lvR, ih]; unfold Lr; rw [mu_ne _ _ _ h1, mu_ne _ _ _ h2]
theorem lvC_38 (l : List Int32) : ∀ (M : Mm) (n : Nat), lvC M n l 38 = wr (M 38) n l := by
  induction l with
  | nil => intro M n; rfl
  | cons x l ih => intro M n; rw [lvC, ih]; rfl
theorem lvR_51 (l : List Int32) : ∀ (M : Mm) (n : Nat), lvR M n l 51 = wr (M 51) n l := by
  induction l with
  | nil => intro M n; rfl
  | cons x l ih => intro M n; rw [lvR, ih]; rfl
theorem lvR_39 (l : List Int32) {i : Nat} (h : ¬ i = 22) : ∀ (M : Mm) (n : Nat), lvR M n l 39 i = M 39 i := by
  induction l with
  | nil => intro M n; rfl
  | cons x l ih =>
    intro M n
    rw [lvR, ih]
    show upd (M 39) 22 _ i = _
    exact pk_un h
theorem wr_lo (l : List Int32) : ∀ (f : Nat → Int32) (n i : Nat), i < n → wr f n l i = f i := by
  induction l with
  | nil => intro f n i _; rfl
  | cons x l ih => intro f n i h; rw [wr, ih _ _ _ (by omega), pk_un (by omega)]
theorem wr_eq (l : List Int32) : ∀ (f g : Nat → Int32) (n i : Nat), n ≤ i → i < n + l.length → wr f n l i = wr g n l i := by
  induction l with
  | nil => intro f g n i h1 h2; simp only [List.length_nil] at h2; omega
  | cons x l ih =>
    intro f g n i h1 h2
    simp only [List.length_cons] at h2
    rw [wr, wr]
    by_cases e : i = n
    · subst e
      rw [wr_lo _ _ _ _ (by omega), wr_lo _ _ _ _ (by omega), pk_us, pk_us]
    · exact ih _ _ _ _ (by omega) (by omega)
/-- all that an ASK doesn't change -/
def Same (M N : Mm) : Prop := M 9 = N 9 ∧ M 10 = N 10 ∧ M 11 = N 11 ∧ M 61 = N 61 ∧ M 62 = N 62
theorem Same.lv {M N : Mm} (h : Same M N) (n : Nat) (l : List Int32) : Same (lvC M n l) N := by
  unfold Same
  rw [lvC_ne l (by decide) (by decide), lvC_ne l (by decide) (by decide), lvC_ne l (by decide) (by decide), lvC_ne l (by decide) (by decide), lvC_ne l (by decide) (by decide)]
  exact h
/-- what a BODY leaves and answers -/
def Bd (N : Mm) (c f : Nat) (x : Int32) (l : List Int32) (r : Int32) : Prop := ∀ (M : Mm) (n d : Nat) (Φ : Int32 → Mm → Prop), Same M N → M 37 1 = nI n → n + l.length ≤ 16 → d + f ≤ 20 → Φ r (lvC M n l) → S_body f M x (nI c) (nI d) Φ
theorem v_leave {M : Mm} {n : Nat} (hn : n < 16) (e : M 37 1 = nI n) (x : Int32) : RunV (S_Trace_leave M x) (Lc M n x) := by
  intro Φ h
  have g := nI_toInt (n := n) (by omega)
  have e16 : (16 : Int32).toInt = 16 := by decide
  unfold S_Trace_leave
  rw [e]
  refine ⟨fun _ => ⟨vp_in_nI hn (by decide), fun M2 e2 M3 e3 => ?_⟩, fun z => absurd (by rw [tI_lt, g, e16]; omega) z⟩
  have e4 : M2 37 1 + 1 = nI (n + 1) := by
    rw [e2]
    show M 37 1 + 1 = _
    rw [e, nI_inc]
  rw [e3, e4, e2, nI_clamp (by omega)]
  exact h
theorem le20 {d : Nat} (h : d ≤ 20) : nI d ≤ 20 := (nI_le_iff (b := 20) (by omega) (by decide)).mpr h
section Bodies
variable {N : Mm} {c : Nat}
theorem bd10 (hc : c < 6) (f : Nat) : Bd N c (f + 1) 10 [10] (N 10 c) := by
  intro M n d Φ hs hn hl hd h
  have hl : n + 1 ≤ 16 := hl
  refine ht (le20 (by omega)) (v_leave (by omega) hn 10 _ (ht rfl ⟨vp_in_nI hc (by decide), ?_⟩))
  rw [nI_clamp (by omega), show Lc M n 10 10 = N 10 from hs.2.1]
  exact h
theorem bd20 (f : Nat) : Bd N c (f + 1) 20 [20] (nI c) := by
  intro M n d Φ hs hn hl hd h
  have hl : n + 1 ≤ 16 := hl
  exact ht (le20 (by omega)) (v_leave (by omega) hn 20 _ (sk (by decide) (sk (by decide) (sk (by decide) (sk (by decide) (sk (by decide) (sk (by decide) (sk (by decide) (sk (by decide) (sk (by decide) (sk (by decide) (ht rfl h)))))))))))) 
theorem same_Lc {M : Mm} (h : Same M N) (n : Nat) (x : Int32) : Same (Lc M n x) N := h
theorem bd21 (hc : c < 6) (f : Nat) : Bd N c (f + 2) 21 [21, 20] (nI c + N 11 c) := by
  intro M n d Φ hs hn hl hd h
  have hl : n + 2 ≤ 16 := hl
  refine ht (le20 (by omega)) (v_leave (by omega) hn 21 _ (sk (by decide) (sk (by decide) (sk (by decide) (sk (by decide) (sk (by decide) (sk (by decide) (sk (by decide) (sk (by decide) (sk (by decide) (sk (by decide) (sk (by decide) (ht rfl ?_)))))))))))))
  rw [nI_inc]
  refine bd20 f (Lc M n 21) (n + 1) (d + 1) _ (same_Lc hs n 21) rfl hl (by omega) ⟨vp_in_nI hc (by decide), ?_⟩
  rw [nI_clamp (by omega), show lvC (Lc M n 21) (n + 1) [20] 11 = N 11 from hs.2.2.1]
  exact h
theorem bd22 (hc : c < 6) (f : Nat) : Bd N c (f + 3) 22 [22, 21, 20] (nI c + N 11 c - 1000) := by
  intro M n d Φ hs hn hl hd h
  have hl : n + 3 ≤ 16 := hl
  refine ht (le20 (by omega)) (v_leave (by omega) hn 22 _ (sk (by decide) (sk (by decide) (sk (by decide) (sk (by decide) (sk (by decide) (sk (by decide) (sk (by decide) (sk (by decide) (sk (by decide) (sk (by decide) (sk (by decide) (sk (by decide) (ht rfl ?_))))))))))))))
  rw [nI_inc]
  exact bd21 hc f (Lc M n 22) (n + 1) (d + 1) _ (same_Lc hs n 22) rfl (by show n + 1 + 2 ≤ 16; omega) (by omega) h
theorem bd24 (hc : c < 6) (f : Nat) : Bd N c (f + 3) 24 [24, 21, 20] (2 * (nI c + N 11 c)) := by
  intro M n d Φ hs hn hl hd h
  have hl : n + 3 ≤ 16 := hl
  refine ht (le20 (by omega)) (v_leave (by omega) hn 24 _ (sk (by decide) (sk (by decide) (sk (by decide) (sk (by decide) (sk (by decide) (sk (by decide) (sk (by decide) (sk (by decide) (sk (by decide) (sk (by decide) (sk (by decide) (sk (by decide) (sk (by decide) (sk (by decide) (ht rfl ?_))))))))))))))))
  rw [nI_inc]
  exact bd21 hc f (Lc M n 24) (n + 1) (d + 1) _ (same_Lc hs n 24) rfl (by show n + 1 + 2 ≤ 16; omega) (by omega) h
theorem bd13 (hc : c < 6) (f : Nat) : Bd N c (f + 2) 13 [13, 10] (N 10 c - 100) := by
  intro M n d Φ hs hn hl hd h
  have hl : n + 2 ≤ 16 := hl
  refine ht (le20 (by omega)) (v_leave (by omega) hn 13 _ (sk (by decide) (sk (by decide) (sk (by decide) (ht rfl ?_)))))
  rw [nI_inc]
  exact bd10 hc f (Lc M n 13) (n + 1) (d + 1) _ (same_Lc hs n 13) rfl (by show n + 1 + 1 ≤ 16; omega) (by omega) h
theorem bd14 (hc : c < 6) (f : Nat) : Bd N c (f + 3) 14 [14, 13, 10] (2 * (N 10 c - 100)) := by
  intro M n d Φ hs hn hl hd h
  have hl : n + 3 ≤ 16 := hl
  refine ht (le20 (by omega)) (v_leave (by omega) hn 14 _ (sk (by decide) (sk (by decide) (sk (by decide) (sk (by decide) (ht rfl ?_))))))
  rw [nI_inc]
  exact bd13 hc f (Lc M n 14) (n + 1) (d + 1) _ (same_Lc hs n 14) rfl (by show n + 1 + 2 ≤ 16; omega) (by omega) h
theorem asked_0 {M : Mm} (hs : Same M N) (hc : c < 6) {κ : Nat} (hκ : κ ≤ 5) (ek : N 9 c = nI κ) {b : Int32} (eb : N 61 κ = b) {B : Mm → Int32 → Int32 → Int32 → (Int32 → Mm → Prop) → Prop} {d : Int32} {Φ : Int32 → Mm → Prop} (h : B M b (nI c) d (fun r M4 => Φ r M4)) : S_asked_F B M 0 (nI c) d Φ := by
  unfold S_asked_F
  rw [nI_clamp (n := c) (by omega), hs.1, ek, nI_clamp (n := κ) (by omega), hs.2.2.2.1, eb]
  refine ⟨vp_in_nI hc (by decide), v_within M _ _ _ _ (sk ?_ (ht rfl ⟨vp_in_nI (by omega) (by decide), h⟩))⟩
  unfold wi
  rw [nI_toInt (by omega), if_pos (by rw [show (0 : Int32).toInt = 0 by decide, show (5 : Int32).toInt = 5 by decide]; omega)]; decide
theorem asked_1 {M : Mm} (hs : Same M N) (hc : c < 6) {κ : Nat} (hκ : κ ≤ 5) (ek : N 9 c = nI κ) {b : Int32} (eb : N 62 κ = b) {B : Mm → Int32 → Int32 → Int32 → (Int32 → Mm → Prop) → Prop} {d : Int32} {Φ : Int32 → Mm → Prop} (h : B M b (nI c) d (fun r M4 => Φ r M4)) : S_asked_F B M 1 (nI c) d Φ := by
  unfold S_asked_F
  rw [nI_clamp (n := c) (by omega), hs.1, ek, nI_clamp (n := κ) (by omega), hs.2.2.2.2, eb]
  refine ⟨vp_in_nI hc (by decide), v_within M _ _ _ _ (sk ?_ (sk (by decide) ⟨vp_in_nI (by omega) (by decide), h⟩))⟩
  unfold wi
  rw [nI_toInt (by omega), if_pos (by rw [show (0 : Int32).toInt = 0 by decide, show (5 : Int32).toInt = 5 by decide]; omega)]; decide
theorem bd11 (hc : c < 6) {κ : Nat} (hκ : κ ≤ 5) (ek : N 9 c = nI κ) {b : Int32} (eb : N 62 κ = b) {f : Nat} {l : List Int32} {r : Int32} (hb : Bd N c (f + 1) b l r) : Bd N c (f + 2) 11 (11 :: 10 :: l) (N 10 c + r) := by
  intro M n d Φ hs hn hl hd h
  have hl : n + (l.length + 2) ≤ 16 := hl
  refine ht (le20 (by omega)) (v_leave (by omega) hn 11 _ (sk (by decide) (ht rfl ?_)))
  rw [nI_inc]
  refine bd10 hc f (Lc M n 11) (n + 1) (d + 1) _ (same_Lc hs n 11) rfl (by show n + 1 + 1 ≤ 16; omega) (by omega) ?_
  refine asked_1 (M := lvC (Lc M n 11) (n + 1) [10]) ((same_Lc hs n 11).lv _ _) hc hκ ek eb ?_
  exact hb (lvC (Lc M n 11) (n + 1) [10]) (n + 2) (d + 1) _ ((same_Lc hs n 11).lv _ _) rfl (by omega) (by omega) h
theorem bd12 {f : Nat} {l : List Int32} {r : Int32} (hb : Bd N c f 11 l r) : Bd N c (f + 1) 12 (12 :: l) (-r) := by
  intro M n d Φ hs hn hl hd h
  have hl : n + (l.length + 1) ≤ 16 := hl
  refine ht (le20 (by omega)) (v_leave (by omega) hn 12 _ (sk (by decide) (sk (by decide) (ht rfl ?_))))
  rw [nI_inc]
  exact hb (Lc M n 12) (n + 1) (d + 1) _ (same_Lc hs n 12) rfl (by omega) (by omega) h
theorem bd23 (hc : c < 6) {κ : Nat} (hκ : κ ≤ 5) (ek : N 9 c = nI κ) {b : Int32} (eb : N 61 κ = b) {f : Nat} {l : List Int32} {r : Int32} (hb : Bd N c (f + 1) b l r) : Bd N c (f + 2) 23 (23 :: 20 :: l) (nI c - r) := by
  intro M n d Φ hs hn hl hd h
  have hl : n + (l.length + 2) ≤ 16 := hl
  refine ht (le20 (by omega)) (v_leave (by omega) hn 23 _ (sk (by decide) (sk (by decide) (sk (by decide) (sk (by decide) (sk (by decide) (sk (by decide) (sk (by decide) (sk (by decide) (sk (by decide) (sk (by decide) (sk (by decide) (sk (by decide) (sk (by decide) (ht rfl ?_)))))))))))))))
  rw [nI_inc]
  refine bd20 f (Lc M n 23) (n + 1) (d + 1) _ (same_Lc hs n 23) rfl (by show n + 1 + 1 ≤ 16; omega) (by omega) ?_
  refine asked_0 (M := lvC (Lc M n 23) (n + 1) [20]) ((same_Lc hs n 23).lv _ _) hc hκ ek eb ?_
  exact hb (lvC (Lc M n 23) (n + 1) [20]) (n + 2) (d + 1) _ ((same_Lc hs n 23).lv _ _) rfl (by omega) (by omega) h
end Bodies
/-- the same of the reference -/
def Rb (v : Nat → Int32) (S : Mm → (Int32 → Mm → Prop) → Prop) (l : List Int32) (r : Int32) : Prop := ∀ (M : Mm) (n : Nat) (Φ : Int32 → Mm → Prop), M 44 = v → M 39 22 = nI n → n + l.length ≤ 16 → Φ r (lvR M n l) → S M Φ
theorem vr_leave {M : Mm} {n : Nat} (hn : n < 16) (e : M 39 22 = nI n) (x : Int32) : RunV (S_R_leave M x) (Lr M n x) := by
  intro Φ h
  unfold S_R_leave
  rw [e]
  refine sk (nle 16 hn (by decide)) ⟨vp_in_nI hn (by decide), fun M2 e2 M3 e3 => ?_⟩
  have e4 : M2 39 22 + 1 = nI (n + 1) := by
    rw [e2]
    show M 39 22 + 1 = _
    rw [e, nI_inc]
  rw [e3, e4, e2, nI_clamp (by omega)]
  exact h
section BodiesR
variable {v : Nat → Int32} {c : Nat}
theorem rb10 (hc : c < 6) : Rb v (fun M Φ => S_R_body10 M (nI c) Φ) [10] (v (17 + c)) := by
  intro M n Φ hv hn hl h
  have hl : n + 1 ≤ 16 := hl
  have e17 : (17 : Int32) + nI c = nI (17 + c) := nI8 17 rfl
  refine vr_leave (by omega) hn 10 _ ?_
  rw [e17, nI_clamp (by omega), show Lr M n 10 44 = v from hv]
  exact ⟨vp_in_nI (by omega) (by decide), h⟩
theorem rb20 : Rb v (fun M Φ => S_R_body20 M (nI c) Φ) [20] (nI c) := by
  intro M n Φ hv hn hl h
  have hl : n + 1 ≤ 16 := hl
  exact vr_leave (by omega) hn 20 _ h
theorem rb21 (hc : c < 6) : Rb v (fun M Φ => S_R_body21 M (nI c) Φ) [21, 20] (nI c + v (29 + c)) := by
  intro M n Φ hv hn hl h
  have hl : n + 2 ≤ 16 := hl
  have e29 : (29 : Int32) + nI c = nI (29 + c) := nI8 29 rfl
  refine vr_leave (by omega) hn 21 _ ?_
  refine rb20 (v := v) (Lr M n 21) (n + 1) _ hv rfl (by show n + 1 + 1 ≤ 16; omega) ?_
  rw [e29, nI_clamp (by omega), show lvR (Lr M n 21) (n + 1) [20] 44 = v from hv]
  exact ⟨vp_in_nI (by omega) (by decide), h⟩
theorem rbMark (hc : c < 6) {κ : Nat} (hκ1 : 1 ≤ κ) (hκ : κ ≤ 3) (ek : v (11 + c) = nI κ) : Rb v (fun M Φ => S_R_markOfPlain M (nI c) Φ) (if κ = 2 then [24, 21, 20] else if κ = 3 then [22, 21, 20] else [21, 20]) (if κ = 2 then 2 * (nI c + v (29 + c)) else if κ = 3 then nI c + v (29 + c) - 1000 else nI c + v (29 + c)) := by
  intro M n Φ hv hn hl h
  have e11 : (11 : Int32) + nI c = nI (11 + c) := nI8 11 rfl
  have q2 : (nI κ = 2) ↔ κ = 2 := nI_inj (b := 2) (by omega) (by decide)
  have q3 : (nI κ = 3) ↔ κ = 3 := nI_inj (b := 3) (by omega) (by decide)
  show S_R_markOfPlain M (nI c) Φ
  unfold S_R_markOfPlain
  rw [e11, nI_clamp (by omega), hv, ek]
  refine ⟨vp_in_nI (by omega) (by decide), fun z => ?_, fun z => ⟨fun z3 => ?_, fun z3 => ?_⟩⟩
  · rw [q2] at z
    rw [if_pos z] at hl; rw [if_pos z, if_pos z] at h
    have hl : n + 3 ≤ 16 := hl
    refine vr_leave (by omega) hn 24 _ ?_
    exact rb21 (v := v) hc (Lr M n 24) (n + 1) _ hv rfl (by show n + 1 + 2 ≤ 16; omega) h
  · rw [q2] at z; rw [q3] at z3
    rw [if_neg z, if_pos z3] at hl; rw [if_neg z, if_pos z3, if_neg z, if_pos z3] at h
    have hl : n + 3 ≤ 16 := hl
    refine vr_leave (by omega) hn 22 _ ?_
    exact rb21 (v := v) hc (Lr M n 22) (n + 1) _ hv rfl (by show n + 1 + 2 ≤ 16; omega) h
  · rw [q2] at z; rw [q3] at z3
    rw [if_neg z, if_neg z3] at hl; rw [if_neg z, if_neg z3, if_neg z, if_neg z3] at h
    exact rb21 (v := v) hc M n _ hv hn hl h
end BodiesR
