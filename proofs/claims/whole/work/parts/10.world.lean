/-! THE WORLD of a memory: the cells of the system as the kit has them -/
def conc (ad : Nat → Nat) : Value → Value
  | .ref k => .ref (ad k)
  | v => v
def fv (ad : Nat → Nat) : List (Option Nat) → Nat → (Nat → Int32) → List Value
  | [], _, _ => []
  | none :: r, j, f => .int (f j) :: fv ad r (j + 1) f
  | some q :: r, j, f => .ref (ad q) :: fv ad r (j + 1) f
def cev (ad : Nat → Nat) (cA : Nat → ClassId) (x : (Nat × Nat) ⊕ (Nat × List (Option Nat))) (f : Nat → Int32) : va_E := match x with
  | .inl (3, n) => .inl (cA 3, n, .inr (.inr (.inr (.inr (fun i => some (ad (imgs i)))))))
  | .inl (t, n) => .inl (cA t, n, .inl f)
  | .inr (c, fs) => .inr (c, fv ad fs 0 f)
def ce (ad : Nat → Nat) (cA : Nat → ClassId) (k : Nat) (f : Nat → Int32) : va_E := match nth axl k with
  | some x => cev ad cA x f
  | none => .inl (0, 0, .inl f)
def wd (ad : Nat → Nat) (cA : Nat → ClassId) (M : Mm) : va_W := (List.range 52).map (fun k => (ad k, ce ad cA k (M k)))
def tysA (cA : Nat → ClassId) : List (ClassId × FieldType) := [(cA 0, .int), (cA 1, .byte), (cA 2, .boolean), (cA 3, .object "GearRoad$Bike")]
def AA (ad : Nat → Nat) : Nat → Prop := fun q => ∃ k, k < 52 ∧ q = ad k
theorem nth_eq {α : Type} : ∀ (l : List α) (k : Nat), nth l k = l[k]?
  | [], _ => by simp [nth]
  | _ :: _, 0 => by simp [nth]
  | _ :: l, k + 1 => by simp [nth, nth_eq l k]
theorem axl_len : axl.length = 52 := rfl
theorem axl_lt {k : Nat} {x : (Nat × Nat) ⊕ (Nat × List (Option Nat))} (h : nth axl k = some x) : k < 52 := by
  rw [nth_eq] at h
  have := (List.getElem?_eq_some_iff.mp h).1
  rw [axl_len] at this; exact this
theorem wd_get (ad : Nat → Nat) (cA : Nat → ClassId) (M : Mm) {k : Nat} {x : (Nat × Nat) ⊕ (Nat × List (Option Nat))} (h : nth axl k = some x) : (wd ad cA M)[k]? = some (ad k, cev ad cA x (M k)) := by
  have hk := axl_lt h
  simp [wd, hk, ce, h]
theorem wd_set (ad : Nat → Nat) (cA : Nat → ClassId) (M : Mm) {k : Nat} {x : (Nat × Nat) ⊕ (Nat × List (Option Nat))} (h : nth axl k = some x) (g : Nat → Int32) : (wd ad cA M).set k (ad k, cev ad cA x g) = wd ad cA (ms M k g) := by
  have hk := axl_lt h
  apply List.ext_getElem?
  intro i
  rw [List.getElem?_set]
  by_cases hi : k = i
  · subst hi
    simp [wd, hk, ms, ce, h]
  · simp only [hi, if_false]
    by_cases h2 : i < 52
    · simp [wd, h2, ms, Ne.symm hi]
    · simp [wd, h2]
theorem fv_len (ad : Nat → Nat) : ∀ (fs : List (Option Nat)) (j : Nat) (f : Nat → Int32), (fv ad fs j f).length = fs.length
  | [], _, _ => rfl
  | none :: r, j, f => by simp [fv, fv_len ad r]
  | some q :: r, j, f => by simp [fv, fv_len ad r]
theorem fv_i (ad : Nat → Nat) : ∀ (fs : List (Option Nat)) (j b : Nat) (f : Nat → Int32), nth fs b = some none → (fv ad fs j f)[b]? = some (.int (f (j + b)))
  | [], _, _, _, h => by simp [nth] at h
  | none :: r, j, 0, f, _ => by simp [fv]
  | some q :: r, j, 0, f, h => by simp [nth] at h
  | none :: r, j, b + 1, f, h => by
    have := fv_i ad r (j + 1) b f h
    simp only [fv, List.getElem?_cons_succ, this]; congr 3; omega
  | some q :: r, j, b + 1, f, h => by
    have := fv_i ad r (j + 1) b f h
    simp only [fv, List.getElem?_cons_succ, this]; congr 3; omega
theorem fv_r (ad : Nat → Nat) : ∀ (fs : List (Option Nat)) (j b : Nat) (f : Nat → Int32) (q : Nat), nth fs b = some (some q) → (fv ad fs j f)[b]? = some (.ref (ad q))
  | [], _, _, _, _, h => by simp [nth] at h
  | none :: r, j, 0, f, _, h => by simp [nth] at h
  | some q :: r, j, 0, f, p, h => by simp [nth] at h; simp [fv, h]
  | none :: r, j, b + 1, f, p, h => by
    have := fv_r ad r (j + 1) b f p h
    simp only [fv, List.getElem?_cons_succ, this]
  | some q :: r, j, b + 1, f, p, h => by
    have := fv_r ad r (j + 1) b f p h
    simp only [fv, List.getElem?_cons_succ, this]
theorem fv_cong (ad : Nat → Nat) : ∀ (fs : List (Option Nat)) (j : Nat) (f g : Nat → Int32), (∀ i, j ≤ i → f i = g i) → fv ad fs j f = fv ad fs j g
  | [], _, _, _, _ => rfl
  | none :: r, j, f, g, h => by
    simp only [fv, h j (Nat.le_refl j), fv_cong ad r (j + 1) f g (fun i hi => h i (by omega))]
  | some q :: r, j, f, g, h => by
    simp only [fv, fv_cong ad r (j + 1) f g (fun i hi => h i (by omega))]
theorem fv_set (ad : Nat → Nat) (x : Int32) : ∀ (fs : List (Option Nat)) (j b : Nat) (f : Nat → Int32), nth fs b = some none → (fv ad fs j f).set b (.int x) = fv ad fs j (upd f (j + b) x)
  | [], _, _, _, h => by simp [nth] at h
  | none :: r, j, 0, f, _ => by
    simp only [fv, List.set_cons_zero, Nat.add_zero]
    rw [fv_cong ad r (j + 1) f (upd f j x) (fun i hi => by simp [upd, show i ≠ j by omega])]
    simp [upd]
  | some q :: r, j, 0, f, h => by simp [nth] at h
  | none :: r, j, b + 1, f, h => by
    have := fv_set ad x r (j + 1) b f h
    simp only [fv, List.set_cons_succ, this]
    rw [show j + 1 + b = j + (b + 1) by omega]
    simp [upd]
  | some q :: r, j, b + 1, f, h => by
    have := fv_set ad x r (j + 1) b f h
    simp only [fv, List.set_cons_succ, this]
    rw [show j + 1 + b = j + (b + 1) by omega]
/-- the fields that are numbers: not final, int or boolean, and all fields are there -/
def axOk (x : (Nat × Nat) ⊕ (Nat × List (Option Nat))) : Bool := match x with
  | .inr (c, fs) => decide (c < 8) && decide (fs.length = (clQ c).2.2) && (List.range fs.length).all (fun b => match nth fs b with
    | some none => decide (((clQ c).2.1 b).2.2.2 = false) && decide (tyA c b = (if isB c b then .boolean else .int))
    | _ => true)
  | _ => true
theorem axl_ok : axl.all axOk = true := by decide +kernel
theorem axl_fields {k c : Nat} {fs : List (Option Nat)} (hk : nth axl k = some (.inr (c, fs))) : c < 8 ∧ fs.length = (clQ c).2.2 ∧ ∀ b, b < fs.length → nth fs b = some none → ((clQ c).2.1 b).2.2.2 = false ∧ tyA c b = (if isB c b then .boolean else .int) := by
  rw [nth_eq] at hk
  have h := List.all_eq_true.mp axl_ok _ (List.mem_of_getElem? hk)
  simp only [axOk, Bool.and_eq_true, decide_eq_true_eq] at h
  refine ⟨h.1.1, h.1.2, fun b hb hn => ?_⟩
  have h2 := List.all_eq_true.mp h.2 b (List.mem_range.mpr hb)
  rw [hn] at h2
  simpa only [Bool.and_eq_true, decide_eq_true_eq] using h2
theorem clA_Q {c : Nat} (h : c < 8) : clA[c]? = some (clQ c) := by
  rcases (by omega : c = 0 ∨ c = 1 ∨ c = 2 ∨ c = 3 ∨ c = 4 ∨ c = 5 ∨ c = 6 ∨ c = 7) with rfl | rfl | rfl | rfl | rfl | rfl | rfl | rfl <;> rfl
theorem conc_cat (ad : Nat → Nat) (v : Value) : (conc ad v).category = v.category := by cases v <;> rfl
theorem conc_cats (ad : Nat → Nat) (l : List Value) : ((l.map (conc ad)).map fun v => v.category).sum = (l.map Value.category).sum := by
  induction l with
  | nil => rfl
  | cons a l ih => simp only [List.map_cons, List.sum_cons, conc_cat, ih]
/-! locals -/
def al (ad : Nat → Nat) : Nat → List (Option Value) → List (Nat × Value)
  | _, [] => []
  | i, none :: L => al ad (i + 1) L
  | i, some v :: L => (i, conc ad v) :: al ad (i + 1) L
def lx (ad : Nat → Nat) (ls : Array Slot) (nL : Nat) (L : List (Option Value)) : Prop := lv_has ls nL (al ad 0 L) ∧ L.length = nL
theorem mem_al (ad : Nat → Nat) : ∀ (L : List (Option Value)) (i : Nat) (q : Nat × Value), q ∈ al ad i L ↔ ∃ (j : Nat) (v : Value), lk L j = some v ∧ q = (i + j, conc ad v)
  | [], i, q => by simp [al, lk]
  | none :: L, i, q => by
    rw [al, mem_al ad L (i + 1) q]
    constructor
    · rintro ⟨j, v, h, e⟩
      exact ⟨j + 1, v, h, by rw [e, show i + 1 + j = i + (j + 1) by omega]⟩
    · rintro ⟨j, v, h, e⟩
      cases j with
      | zero => simp [lk] at h
      | succ j => exact ⟨j, v, h, by rw [e, show i + 1 + j = i + (j + 1) by omega]⟩
  | some w :: L, i, q => by
    rw [al, List.mem_cons, mem_al ad L (i + 1) q]
    constructor
    · rintro (e | ⟨j, v, h, e⟩)
      · exact ⟨0, w, rfl, e⟩
      · exact ⟨j + 1, v, h, by rw [e, show i + 1 + j = i + (j + 1) by omega]⟩
    · rintro ⟨j, v, h, e⟩
      cases j with
      | zero =>
        simp only [lk, Option.some.injEq] at h
        subst h
        exact Or.inl e
      | succ j => exact Or.inr ⟨j, v, h, by rw [e, show i + 1 + j = i + (j + 1) by omega]⟩
theorem lx_at {ad : Nat → Nat} {ls : Array Slot} {nL : Nat} {L : List (Option Value)} (h : lx ad ls nL L) {i : Nat} {v : Value} (hv : lk L i = some v) : ls[i]? = some (.val (conc ad v)) :=
  h.1.2.2 (i, conc ad v) ((mem_al ad L 0 _).mpr ⟨i, v, hv, by rw [Nat.zero_add]⟩)
theorem lk_lt : ∀ {L : List (Option Value)} {i : Nat} {v : Value}, lk L i = some v → i < L.length
  | [], _, _, h => by simp [lk] at h
  | _ :: _, 0, _, _ => by simp
  | _ :: L, i + 1, v, h => by have := lk_lt (L := L) (i := i) h; simp; omega
theorem dropL_some {o : Option Value} {w : Value} (h : dropL o = some w) : o = some w ∧ w.category = 1 := by
  cases o with
  | none => simp [dropL] at h
  | some v => cases v <;> simp [dropL] at h <;> (subst h; exact ⟨rfl, rfl⟩)
theorem stL_len (v : Value) : ∀ (L : List (Option Value)) (i : Nat), (stL L i v).length = L.length
  | [], _ => by simp [stL]
  | _ :: L, 0 => by simp [stL]
  | _ :: L, 1 => by simp [stL, stL_len v L 0]
  | _ :: L, n + 2 => by simp [stL, stL_len v L (n + 1)]
theorem stL_at (v : Value) : ∀ (L : List (Option Value)) (i j : Nat) (w : Value), lk (stL L i v) j = some w → (j = i ∧ w = v) ∨ (j ≠ i ∧ lk L j = some w ∧ (j + 1 = i → w.category = 1))
  | [], _, _, _, h => by simp [stL, lk] at h
  | _ :: L, 0, 0, w, h => by simp [stL, lk] at h; exact Or.inl ⟨rfl, h.symm⟩
  | _ :: L, 0, j + 1, w, h => by simp [stL, lk] at h; exact Or.inr ⟨by omega, h, fun e => by omega⟩
  | o :: L, 1, 0, w, h => by
    simp only [stL, lk] at h
    obtain ⟨e1, e2⟩ := dropL_some h
    exact Or.inr ⟨by omega, e1, fun _ => e2⟩
  | o :: L, 1, j + 1, w, h => by
    simp only [stL, lk] at h
    rcases stL_at v L 0 j w h with ⟨e1, e2⟩ | ⟨e1, e2, e3⟩
    · exact Or.inl ⟨by omega, e2⟩
    · exact Or.inr ⟨by omega, e2, fun e => e3 (by omega)⟩
  | o :: L, n + 2, 0, w, h => by
    simp only [stL, lk] at h
    exact Or.inr ⟨by omega, h, fun e => by omega⟩
  | o :: L, n + 2, j + 1, w, h => by
    simp only [stL, lk] at h
    rcases stL_at v L (n + 1) j w h with ⟨e1, e2⟩ | ⟨e1, e2, e3⟩
    · exact Or.inl ⟨by omega, e2⟩
    · exact Or.inr ⟨by omega, e2, fun e => e3 (by omega)⟩
theorem tlN_len (L : List (Option Value)) : (tlN L).length = L.length := by cases L <;> rfl
theorem tlN_at {L : List (Option Value)} {j : Nat} {w : Value} (h : lk (tlN L) j = some w) : j ≠ 0 ∧ lk L j = some w := by
  cases L with
  | nil => simp [tlN, lk] at h
  | cons a L => cases j with
    | zero => simp [tlN, lk] at h
    | succ j => exact ⟨by omega, h⟩
theorem stL2_len (v : Value) : ∀ (L : List (Option Value)) (i : Nat), (stL2 L i v).length = L.length
  | [], _ => by simp [stL2]
  | _ :: L, 0 => by simp [stL2, tlN_len]
  | _ :: L, 1 => by simp [stL2, stL2_len v L 0]
  | _ :: L, n + 2 => by simp [stL2, stL2_len v L (n + 1)]
theorem stL2_at (v : Value) : ∀ (L : List (Option Value)) (i j : Nat) (w : Value), lk (stL2 L i v) j = some w → (j = i ∧ w = v) ∨ (j ≠ i ∧ j ≠ i + 1 ∧ lk L j = some w ∧ (j + 1 = i → w.category = 1))
  | [], _, _, _, h => by simp [stL2, lk] at h
  | _ :: L, 0, 0, w, h => by simp [stL2, lk] at h; exact Or.inl ⟨rfl, h.symm⟩
  | _ :: L, 0, j + 1, w, h => by
    simp only [stL2, lk] at h
    obtain ⟨e1, e2⟩ := tlN_at h
    exact Or.inr ⟨by omega, by omega, e2, fun e => by omega⟩
  | o :: L, 1, 0, w, h => by
    simp only [stL2, lk] at h
    obtain ⟨e1, e2⟩ := dropL_some h
    exact Or.inr ⟨by omega, by omega, e1, fun _ => e2⟩
  | o :: L, 1, j + 1, w, h => by
    simp only [stL2, lk] at h
    rcases stL2_at v L 0 j w h with ⟨e1, e2⟩ | ⟨e1, e0, e2, e3⟩
    · exact Or.inl ⟨by omega, e2⟩
    · exact Or.inr ⟨by omega, by omega, e2, fun e => e3 (by omega)⟩
  | o :: L, n + 2, 0, w, h => by
    simp only [stL2, lk] at h
    exact Or.inr ⟨by omega, by omega, h, fun e => by omega⟩
  | o :: L, n + 2, j + 1, w, h => by
    simp only [stL2, lk] at h
    rcases stL2_at v L (n + 1) j w h with ⟨e1, e2⟩ | ⟨e1, e0, e2, e3⟩
    · exact Or.inl ⟨by omega, e2⟩
    · exact Or.inr ⟨by omega, by omega, e2, fun e => e3 (by omega)⟩
theorem lx_set {ad : Nat → Nat} {ls' : Array Slot} {nL i : Nat} {L : List (Option Value)} {v : Value} (hl : L.length = nL) (h : lv_has ls' nL ((i, conc ad v) :: (al ad 0 L).filter (fun q => !(q.1 == i) && !(q.1 + 1 == i && q.2.category == 2)))) : lx ad ls' nL (stL L i v) := by
  refine ⟨⟨h.1, h.2.1, fun q hq => h.2.2 q ?_⟩, by rw [stL_len, hl]⟩
  obtain ⟨j, w, hw, rfl⟩ := (mem_al ad _ 0 q).mp hq
  rw [Nat.zero_add]
  rcases stL_at v L i j w hw with ⟨e1, e2⟩ | ⟨e1, e2, e3⟩
  · rw [e1, e2]; exact List.mem_cons_self
  · refine List.mem_cons_of_mem _ (List.mem_filter.mpr ⟨(mem_al ad L 0 _).mpr ⟨j, w, e2, by rw [Nat.zero_add]⟩, ?_⟩)
    by_cases hj : j + 1 = i
    · have := e3 hj
      simp [e1, conc_cat, this]
    · simp [e1, hj]
theorem lx_set2 {ad : Nat → Nat} {ls' : Array Slot} {nL i : Nat} {L : List (Option Value)} {v : Value} (hl : L.length = nL) (h : lv_has ls' nL ((i, conc ad v) :: (al ad 0 L).filter (fun q => !(q.1 == i) && (!(q.1 == i + 1) && !(q.1 + 1 == i && q.2.category == 2))))) : lx ad ls' nL (stL2 L i v) := by
  refine ⟨⟨h.1, h.2.1, fun q hq => h.2.2 q ?_⟩, by rw [stL2_len, hl]⟩
  obtain ⟨j, w, hw, rfl⟩ := (mem_al ad _ 0 q).mp hq
  rw [Nat.zero_add]
  rcases stL2_at v L i j w hw with ⟨e1, e2⟩ | ⟨e1, e0, e2, e3⟩
  · rw [e1, e2]; exact List.mem_cons_self
  · refine List.mem_cons_of_mem _ (List.mem_filter.mpr ⟨(mem_al ad L 0 _).mpr ⟨j, w, e2, by rw [Nat.zero_add]⟩, ?_⟩)
    by_cases hj : j + 1 = i
    · have := e3 hj
      simp [e1, e0, conc_cat, this]
    · simp [e1, e0, hj]
theorem fgt_at : ∀ {L L' : List (Option Value)}, fgt L L' → L'.length = L.length ∧ ∀ j w, lk L' j = some w → lk L j = some w
  | [], [], _ => ⟨rfl, fun j w h => h⟩
  | [], _ :: _, h => h.elim
  | _ :: _, [], h => h.elim
  | o :: L, p :: K, h => by
    obtain ⟨h1, h2⟩ := h
    obtain ⟨e1, e2⟩ := fgt_at h2
    refine ⟨by simp [e1], fun j w hw => ?_⟩
    cases j with
    | zero =>
      simp only [lk] at hw ⊢
      rcases h1 with h1 | h1
      · rw [h1] at hw; cases hw
      · rw [← h1]; exact hw
    | succ j => exact e2 j w hw
theorem lx_fgt {ad : Nat → Nat} {ls : Array Slot} {nL : Nat} {L L' : List (Option Value)} (h : lx ad ls nL L) (hf : fgt L L') : lx ad ls nL L' := by
  obtain ⟨e1, e2⟩ := fgt_at hf
  refine ⟨⟨h.1.1, h.1.2.1, fun q hq => h.1.2.2 q ?_⟩, by rw [e1]; exact h.2⟩
  obtain ⟨j, w, hw, rfl⟩ := (mem_al ad _ 0 q).mp hq
  exact (mem_al ad L 0 _).mpr ⟨j, w, e2 j w hw, rfl⟩
/-- the locals at a method's entry -/
theorem entL_args (ad : Nat → Nat) : ∀ (as : List Value) (n i : Nat), (as.map Value.category).sum ≤ n → (entL n as).length = n ∧ ∀ q, q ∈ al ad i (entL n as) → q ∈ lv_args i (as.map (conc ad))
  | [], n, i, _ => by
    refine ⟨by simp [entL], fun q hq => ?_⟩
    obtain ⟨j, w, hw, rfl⟩ := (mem_al ad _ i q).mp hq
    exfalso
    have : ∀ (n j : Nat), lk (List.replicate n none) j = none := by
      intro n
      induction n with
      | zero => intro j; simp [lk]
      | succ n ih => intro j; cases j <;> simp [List.replicate_succ, lk, ih]
    rw [entL, this] at hw
    cases hw
  | v :: as, n, i, h => by
    simp only [List.map_cons, List.sum_cons] at h
    by_cases hc : v.category = 2
    · rw [hc] at h
      have ih := entL_args ad as (n - 2) (i + 2) (by omega)
      cases v with
      | long x =>
        simp only [entL]
        refine ⟨by simp [ih.1]; omega, fun q hq => ?_⟩
        simp only [al, List.mem_cons] at hq
        simp only [List.map_cons, lv_args, conc, Value.category, if_true]
        rcases hq with hq | hq
        · exact List.mem_cons.mpr (Or.inl hq)
        · exact List.mem_cons.mpr (Or.inr (ih.2 q hq))
      | double x =>
        simp only [entL]
        refine ⟨by simp [ih.1]; omega, fun q hq => ?_⟩
        simp only [al] at hq
        simp only [List.map_cons, lv_args, conc, Value.category, if_true]
        exact List.mem_cons.mpr (Or.inr (ih.2 q hq))
      | _ => simp [Value.category] at hc
    · have hc1 : v.category = 1 := (lv_cat v).resolve_right hc
      rw [hc1] at h
      have ih := entL_args ad as (n - 1) (i + 1) (by omega)
      have key : entL n (v :: as) = some v :: entL (n - 1) as := by cases v <;> first | rfl | (simp [Value.category] at hc1)
      rw [key]
      refine ⟨by simp [ih.1]; omega, fun q hq => ?_⟩
      simp only [al, List.mem_cons] at hq
      have hcc : ¬ (conc ad v).category = 2 := by rw [conc_cat]; exact hc
      simp only [List.map_cons, lv_args, hcc, if_false]
      rcases hq with hq | hq
      · exact List.mem_cons.mpr (Or.inl hq)
      · exact List.mem_cons.mpr (Or.inr (ih.2 q hq))
