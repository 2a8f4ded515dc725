/-! THE RULES of the small machine: a stretch, a branch, a switch, a call, a return, backwards -/
set_option maxHeartbeats 4000000 in
theorem ex1_pc {i : AI} {c c' : Cf} {g : Option Prop} (h : ex1 i c = some (g, c')) : c'.1 = nxt c.1 i := by
  obtain ⟨ins, len, ⟨a, b⟩, v⟩ := i
  obtain ⟨pc, L, st, M⟩ := c
  cases ins <;> simp only [ex1, reduceCtorEq] at h <;> simp only [nxt] <;>
    simp only [x_psh, x_ldi, x_ldl, x_lda, x_sti, x_stl, x_inc, x_ii, x_iid, x_i, x_lmul, x_lrem, x_lcmp, x_l2i, x_dup, x_pop, x_dup2, x_jmp, x_gf, x_pf, x_iald, x_bald, x_aald, x_iast, x_bast, x_alen, x_copy, cond] at h <;>
    (repeat' split at h) <;> simp only [Option.some.injEq, Prod.mk.injEq, reduceCtorEq] at h <;>
    (try (obtain ⟨-, rfl⟩ := h; first | rfl | (simp_all; done)))
theorem Clo.blk {K : Ko} {mi : Nat} {Post : Option Value → Mm → Prop} {X : Cf → Prop} (hX : Clo K mi Post X) : ∀ (is : List AI) (c c' : Cf) (G : Prop), okB mi c.1 is = true → runB is c = some (G, c') → G → X c' → X c
  | [], c, c', G, _, he, _, k => by
    simp only [runB, Option.some.injEq, Prod.mk.injEq] at he
    rw [he.2]; exact k
  | i :: is, c, c', G, hf, he, hg, k => by
    simp only [okB, Bool.and_eq_true] at hf
    simp only [runB] at he
    split at he
    · cases he
    · rename_i c1 h1
      exact hX.1 i c none c1 hf.1 h1 (fun q h => by cases h) (Clo.blk hX is c1 c' G (by rw [ex1_pc h1]; exact hf.2) he hg k)
    · rename_i g c1 h1
      split at he
      · cases he
      · rename_i G2 c2 h2
        simp only [Option.some.injEq, Prod.mk.injEq] at he
        obtain ⟨e1, e2⟩ := he
        subst e1; subst e2
        exact hX.1 i c (some g) c1 hf.1 h1 (fun q h => by cases h; exact hg.1) (Clo.blk hX is c1 c2 G2 (by rw [ex1_pc h1]; exact hf.2) h2 hg.2 k)
theorem WP.mono {K K' : Ko} (hK : ∀ j as M P, K j as M P → K' j as M P) {mi : Nat} {P Q : Option Value → Mm → Prop} (h : ∀ r M, P r M → Q r M) {c : Cf} (w : WP K mi P c) : WP K' mi Q c := by
  intro X hX
  obtain ⟨h1, h2, h3, h4, h5, h6⟩ := hX
  exact w X ⟨h1, h2, h3, fun i pc j L st as rest M a b k => h4 i pc j L st as rest M a b (hK _ _ _ _ k), h5, fun i pc L st M g r a b c d => h6 i pc L st M g r a b c (h _ _ d)⟩
theorem Ct.mono : ∀ d, Kmono (Ct d)
  | 0 => fun _ _ _ _ _ _ k => k
  | _ + 1 => fun _ _ _ _ _ h k => ⟨k.1, WP.mono (fun _ _ _ _ k => k) h k.2⟩
theorem Ct.up : ∀ (d : Nat) (j : Nat) (as : List Value) (M : Mm) (P : Option Value → Mm → Prop), Ct d j as M P → Ct (d + 1) j as M P
  | 0, _, _, _, _, k => k.elim
  | d + 1, _, _, _, _, k => ⟨k.1, WP.mono (Ct.up d) (fun _ _ h => h) k.2⟩
section Rules
variable {d mi : Nat} {Post : Option Value → Mm → Prop} {pc : Nat} {L : List (Option Value)} {st : List Value} {M : Mm}
theorem WP.blk (is : List AI) {G : Prop} {c' : Cf} (hf : okB mi pc is = true) (he : runB is (pc, L, st, M) = some (G, c')) (hg : G) (k : WP (Ct d) mi Post c') : WP (Ct d) mi Post (pc, L, st, M) :=
  fun X hX => Clo.blk hX is _ c' G hf he hg (k X hX)
theorem WP.br (i : AI) {P : Prop} {c1 c2 : Cf} (hf : okI mi pc i = true) (hb : brc i (pc, L, st, M) = some (P, c1, c2)) (k1 : P → WP (Ct d) mi Post c1) (k2 : ¬ P → WP (Ct d) mi Post c2) : WP (Ct d) mi Post (pc, L, st, M) :=
  fun X hX => hX.2.1 i _ P c1 c2 hf hb (fun h => k1 h X hX) (fun h => k2 h X hX)
theorem WP.sw (i : AI) (t : Nat) {x : Int32} (hf : okI mi pc i = true) (hi : (∃ d lo hi o, i.1 = .tableswitch d lo hi o) ∨ (∃ d ps, i.1 = .lookupswitch d ps)) (ht : (pc : Int) + swOff i.1 x = (t : Int)) (k : WP (Ct d) mi Post (t, L, st, M)) : WP (Ct d) mi Post (pc, L, .int x :: st, M) :=
  fun X hX => hX.2.2.1 i pc t x L st M hf hi ht (k X hX)
theorem WP.call (i : AI) {j : Nat} {as rest : List Value} (hf : okI mi pc i = true) (hi : inv i (pc, L, st, M) = some (j, as, rest)) (k : Ct d j as M (fun r M' => WP (Ct d) mi Post (pc + 3, L, r.toList ++ rest, M'))) : WP (Ct d) mi Post (pc, L, st, M) :=
  fun X hX => hX.2.2.2.1 i pc j L st as rest M hf hi (Ct.mono d j as M _ _ (fun _ _ w => w X hX) k)
theorem WP.fgt (L' : List (Option Value)) (h : fgt L L') (k : WP (Ct d) mi Post (pc, L', st, M)) : WP (Ct d) mi Post (pc, L, st, M) :=
  fun X hX => hX.2.2.2.2.1 pc L L' st M h (k X hX)
theorem WP.ret (i : AI) {rk : Nat} {g : Prop} {r : Option Value} (hk : mR mi = rk) (hf : okI mi pc i = true) (hr : rtn rk i.1 st = some (g, r)) (hg : g) (k : Post r M) : WP (Ct d) mi Post (pc, L, st, M) :=
  fun X hX => hX.2.2.2.2.2 i pc L st M g r hf (by rw [hk]; exact hr) hg k
theorem Ct.go {n : Nat} {as : List Value} (hn : mL mi = n) {E : List (Option Value)} (hc : (as.map Value.category).sum ≤ n) (he : entL n as = E) (k : WP (Ct d) mi Post (0, E, [], M)) : Ct (d + 1) mi as M Post := by
  subst hn; subst he
  exact ⟨hc, k⟩
end Rules
/-- a loop: how often at most, then what each round asks of the next -/
def lp {α : Type} (F : (α → Prop) → α → Prop) : Nat → α → Prop
  | 0, _ => False
  | n + 1, a => F (lp F n) a
theorem vp_lit {i : Int32} {n : Nat} (h : (decide (i < 0) || decide (n ≤ i.toNatClampNeg)) = false) : vp_in i n := by
  intro q
  rcases q with q | q <;> simp [q] at h
theorem ne_toInt {x k : Int32} (h : ¬ x = k) : ¬ x.toInt = k.toInt := fun q => h (Int32.toInt_inj.mp q)
theorem sw_out {d lo hi : Int} {offs : Array Int} {x : Int32} (h : ¬ (lo ≤ x.toInt ∧ x.toInt ≤ hi)) : swOff (.tableswitch d lo hi offs) x = d := by
  simp only [swOff]
  rw [if_pos (by omega)]
