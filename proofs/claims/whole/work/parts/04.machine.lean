/-! THE SMALL MACHINE: what the methods do, over numbers alone. A memory says of each cell of the system (0 ..) what its places hold; which cells there are, and which places hold references, never changes behind the constructors. -/
abbrev Mm : Type := Nat → Nat → Int32
/-- pc, locals, stack, memory -/
abbrev Cf : Type := Nat × List (Option Value) × List Value × Mm
abbrev Ex : Type := Option (Option Prop × Cf)
def ms (M : Mm) (k : Nat) (f : Nat → Int32) : Mm := fun j => if j = k then f else M j
def mu (M : Mm) (k i : Nat) (x : Int32) : Mm := ms M k (upd (M k) i x)
/-- places of one row come to another, as they were -/
def mcp (M : Mm) (k0 k1 sp dp n : Nat) : Mm := ms M k1 (va_cpy (M k0) (M k1) sp dp n)
def lk : List (Option Value) → Nat → Option Value
  | [], _ => none
  | o :: _, 0 => o
  | _ :: l, n + 1 => lk l n
def dropL : Option Value → Option Value
  | some (.long _) => none
  | some (.double _) => none
  | o => o
def stL : List (Option Value) → Nat → Value → List (Option Value)
  | [], _, _ => []
  | _ :: L, 0, v => some v :: L
  | o :: L, 1, v => dropL o :: stL L 0 v
  | o :: L, n + 2, v => o :: stL L (n + 1) v
def tlN : List (Option Value) → List (Option Value)
  | [] => []
  | _ :: L => none :: L
def stL2 : List (Option Value) → Nat → Value → List (Option Value)
  | [], _, _ => []
  | _ :: L, 0, v => some v :: tlN L
  | o :: L, 1, v => dropL o :: stL2 L 0 v
  | o :: L, n + 2, v => o :: stL2 L (n + 1) v
/-- the images' cells -/
def imgs (i : Nat) : Nat := if i = 0 then 20 else 26
/-- how long an array is; the three tables 60 .. 62, the script 63 -/
def alen (M : Mm) (k : Nat) : Nat := if k = 63 then (M 64 0).toNatClampNeg else 6
/-- the rest of a division -/
def irm (x y : Int32) : Int32 := x - x / y * y
def lrm (x y : Int64) : Int64 := x - x / y * y
def x_psh (len : Nat) (v : Value) : Cf → Ex
  | (pc, L, st, M) => some (none, pc + len, L, v :: st, M)
def x_ldi (len n : Nat) : Cf → Ex
  | (pc, L, st, M) => match lk L n with
    | some (.int x) => some (none, pc + len, L, .int x :: st, M)
    | _ => none
def x_ldl (len n : Nat) : Cf → Ex
  | (pc, L, st, M) => match lk L n with
    | some (.long x) => some (none, pc + len, L, .long x :: st, M)
    | _ => none
def x_lda (len n : Nat) : Cf → Ex
  | (pc, L, st, M) => match lk L n with
    | some (.ref x) => some (none, pc + len, L, .ref x :: st, M)
    | _ => none
def x_sti (len n : Nat) : Cf → Ex
  | (pc, L, .int x :: st, M) => some (none, pc + len, stL L n (.int x), st, M)
  | _ => none
def x_stl (len n : Nat) : Cf → Ex
  | (pc, L, .long x :: st, M) => some (none, pc + len, stL2 L n (.long x), st, M)
  | _ => none
def x_inc (len n : Nat) (v : Value) : Cf → Ex
  | (pc, L, st, M) => match lk L n, v with
    | some (.int x), .int k => some (none, pc + len, stL L n (.int (x + k)), st, M)
    | _, _ => none
def x_ii (len : Nat) (f : Int32 → Int32 → Int32) : Cf → Ex
  | (pc, L, .int y :: .int x :: st, M) => some (none, pc + len, L, .int (f x y) :: st, M)
  | _ => none
def x_iid (len : Nat) (f : Int32 → Int32 → Int32) : Cf → Ex
  | (pc, L, .int y :: .int x :: st, M) => some (some (¬ y = 0), pc + len, L, .int (f x y) :: st, M)
  | _ => none
def x_i (len : Nat) (f : Int32 → Value) : Cf → Ex
  | (pc, L, .int x :: st, M) => some (none, pc + len, L, f x :: st, M)
  | _ => none
def x_lmul (len : Nat) : Cf → Ex
  | (pc, L, .long y :: .long x :: st, M) => some (none, pc + len, L, .long (x * y) :: st, M)
  | _ => none
def x_lrem (len : Nat) : Cf → Ex
  | (pc, L, .long y :: .long x :: st, M) => some (some (¬ y = 0), pc + len, L, .long (lrm x y) :: st, M)
  | _ => none
def x_lcmp (len : Nat) : Cf → Ex
  | (pc, L, .long y :: .long x :: st, M) => some (none, pc + len, L, .int (lg_cmp x y) :: st, M)
  | _ => none
def x_l2i (len : Nat) : Cf → Ex
  | (pc, L, .long x :: st, M) => some (none, pc + len, L, .int x.toInt32 :: st, M)
  | _ => none
def cat1 : Value → Bool
  | .int _ => true
  | .ref _ => true
  | _ => false
def x_dup (len : Nat) : Cf → Ex
  | (pc, L, v :: st, M) => bif cat1 v then some (none, pc + len, L, v :: v :: st, M) else none
  | _ => none
def x_pop (len : Nat) : Cf → Ex
  | (pc, L, v :: st, M) => bif cat1 v then some (none, pc + len, L, st, M) else none
  | _ => none
def x_dup2 (len : Nat) : Cf → Ex
  | (pc, L, v :: w :: st, M) => bif cat1 v && cat1 w then some (none, pc + len, L, v :: w :: v :: w :: st, M) else none
  | _ => none
def x_jmp (a : Nat) : Cf → Ex
  | (_, L, st, M) => some (none, a, L, st, M)
def x_gf (len a b : Nat) : Cf → Ex
  | (pc, L, .ref k :: st, M) => match nth axl k with
    | some (.inr (c, fs)) => bif Nat.beq a c then (match nth fs b with
      | some none => some (none, pc + len, L, .int (M k b) :: st, M)
      | some (some q) => some (none, pc + len, L, .ref q :: st, M)
      | none => none) else none
    | _ => none
  | _ => none
def isB (c b : Nat) : Bool := (Nat.beq c 1 && Nat.beq b 0) || (Nat.beq c 7 && Nat.beq b 5)
def x_pf (len a b : Nat) : Cf → Ex
  | (pc, L, .int x :: .ref k :: st, M) => match nth axl k with
    | some (.inr (c, fs)) => bif Nat.beq a c then (match nth fs b with
      | some none => some (bif isB a b then some (x = 0 ∨ x = 1) else none, pc + len, L, st, mu M k b x)
      | _ => none) else none
    | _ => none
  | _ => none
def x_iald (len : Nat) : Cf → Ex
  | (pc, L, .int i :: .ref k :: st, M) => match nth axl k with
    | some (.inl (0, n)) => some (some (vp_in i n), pc + len, L, .int (M k i.toNatClampNeg) :: st, M)
    | some _ => none
    | none => bif Nat.blt 59 k && Nat.blt k 64 then some (some (vp_in i (alen M k)), pc + len, L, .int (M k i.toNatClampNeg) :: st, M) else none
  | _ => none
def x_bald (len : Nat) : Cf → Ex
  | (pc, L, .int i :: .ref k :: st, M) => match nth axl k with
    | some (.inl (1, n)) => some (some (vp_in i n), pc + len, L, .int (M k i.toNatClampNeg) :: st, M)
    | some (.inl (2, n)) => some (some (vp_in i n), pc + len, L, .int (M k i.toNatClampNeg) :: st, M)
    | _ => none
  | _ => none
def x_aald (len : Nat) : Cf → Ex
  | (pc, L, .int i :: .ref k :: st, M) => match nth axl k with
    | some (.inl (3, n)) => some (some (vp_in i n), pc + len, L, .ref (imgs i.toNatClampNeg) :: st, M)
    | _ => none
  | _ => none
def x_iast (len : Nat) : Cf → Ex
  | (pc, L, .int x :: .int i :: .ref k :: st, M) => match nth axl k with
    | some (.inl (0, n)) => some (some (vp_in i n), pc + len, L, st, mu M k i.toNatClampNeg x)
    | _ => none
  | _ => none
def x_bast (len : Nat) : Cf → Ex
  | (pc, L, .int x :: .int i :: .ref k :: st, M) => match nth axl k with
    | some (.inl (1, n)) => some (some (vp_in i n), pc + len, L, st, mu M k i.toNatClampNeg (vp_nar .byte x))
    | some (.inl (2, n)) => some (some (vp_in i n), pc + len, L, st, mu M k i.toNatClampNeg (vp_nar .boolean x))
    | _ => none
  | _ => none
def x_alen (len : Nat) : Cf → Ex
  | (pc, L, .ref k :: st, M) => bif Nat.beq k 63 then some (none, pc + len, L, .int (Int32.ofNat (alen M 63)) :: st, M) else none
  | _ => none
def cpOk (sp dp n : Int32) (n0 n1 : Nat) : Prop := ¬ sp < 0 ∧ ¬ dp < 0 ∧ ¬ n < 0 ∧ sp.toNatClampNeg + n.toNatClampNeg ≤ n0 ∧ dp.toNatClampNeg + n.toNatClampNeg ≤ n1
def x_copy (len : Nat) : Cf → Ex
  | (pc, L, .int n :: .int dp :: .ref k1 :: .int sp :: .ref k0 :: st, M) => match nth axl k0, nth axl k1 with
    | some (.inl (0, n0)), some (.inl (0, n1)) => bif Nat.ble (st.map Value.category).sum 8 then some (some (cpOk sp dp n n0 n1), pc + len, L, st, mcp M k0 k1 sp.toNatClampNeg dp.toNatClampNeg n.toNatClampNeg) else none
    | _, _ => none
  | _ => none
/-- the instructions that go on at one place -/
def ex1 : AI → Cf → Ex
  | (ins, len, (a, b), v), c => match ins with
    | .aload_n n => x_lda len n c
    | .iload_n n => x_ldi len n c
    | .lload_n n => x_ldl len n c
    | .iload n => x_ldi len n c
    | .lload n => x_ldl len n c
    | .istore_n n => x_sti len n c
    | .istore n => x_sti len n c
    | .lstore_n n => x_stl len n c
    | .lstore n => x_stl len n c
    | .iinc n _ => x_inc len n v c
    | .iconst _ => x_psh len v c
    | .bipush _ => x_psh len v c
    | .sipush _ => x_psh len v c
    | .ldc _ => x_psh len v c
    | .ldc_w _ => x_psh len v c
    | .ldc2_w _ => x_psh len v c
    | .lconst _ => x_psh len v c
    | .iadd => x_ii len (fun x y => x + y) c
    | .isub => x_ii len (fun x y => x - y) c
    | .imul => x_ii len (fun x y => x * y) c
    | .iand => x_ii len (fun x y => x &&& y) c
    | .ior => x_ii len (fun x y => x ||| y) c
    | .ishl => x_ii len (fun x y => x <<< (y &&& 31)) c
    | .idiv => x_iid len (fun x y => x / y) c
    | .irem => x_iid len (fun x y => irm x y) c
    | .ineg => x_i len (fun x => .int (-x)) c
    | .i2l => x_i len (fun x => .long x.toInt64) c
    | .i2b => x_i len (fun x => .int x.toInt8.toInt32) c
    | .i2s => x_i len (fun x => .int x.toInt16.toInt32) c
    | .l2i => x_l2i len c
    | .lmul => x_lmul len c
    | .lrem => x_lrem len c
    | .lcmp => x_lcmp len c
    | .dup => x_dup len c
    | .dup2 => x_dup2 len c
    | .pop => x_pop len c
    | .goto _ => x_jmp a c
    | .getfield _ => x_gf len a b c
    | .putfield _ => x_pf len a b c
    | .getstatic _ => x_psh len (.ref a) c
    | .iaload => x_iald len c
    | .baload => x_bald len c
    | .aaload => x_aald len c
    | .iastore => x_iast len c
    | .bastore => x_bast len c
    | .arraylength => x_alen len c
    | .invokestatic _ => bif Nat.beq a 999 then x_copy len c else none
    | _ => none
def runB : List AI → Cf → Option (Prop × Cf)
  | [], c => some (True, c)
  | i :: is, c => match ex1 i c with
    | none => none
    | some (none, c1) => runB is c1
    | some (some g, c1) => match runB is c1 with
      | none => none
      | some (G, c2) => some (g ∧ G, c2)
/-- branches: what is asked, where it goes then, else -/
def brc : AI → Cf → Option (Prop × Cf × Cf)
  | (ins, _, (a, _), _), (pc, L, st, M) => match ins with
    | .if_icmp q _ => match st with
      | .int y :: .int x :: st => some ((match q with | .eq => x = y | .ne => ¬ x = y | .lt => x < y | .ge => y ≤ x | .gt => y < x | .le => x ≤ y), (a, L, st, M), (pc + 3, L, st, M))
      | _ => none
    | .ifCond q _ => match st with
      | .int x :: st => some ((match q with | .eq => x = 0 | .ne => ¬ x = 0 | .lt => x < 0 | .ge => 0 ≤ x | .gt => 0 < x | .le => x ≤ 0), (a, L, st, M), (pc + 3, L, st, M))
      | _ => none
    | _ => none
/-- switches: where a number leads (the offset) -/
def swOff : Instr → Int32 → Int
  | .tableswitch d lo hi offs, x => if x.toInt < lo ∨ hi < x.toInt then d else (offs.toList.getD (x.toInt - lo).toNat d)
  | .lookupswitch d ps, x => Op.lookupswitch.offset ps.toList d x.toInt
  | _, _ => 0
/-- is it an object of this class -/
def isObj : Value → List Value → Bool
  | .retAddr c, .ref k :: _ => match nth axl k with
    | some (.inr (q, _)) => Nat.beq c q
    | _ => false
  | _, _ => false
/-- calls: the method, what is passed, what stays below -/
def inv : AI → Cf → Option (Nat × List Value × List Value)
  | (ins, _, (a, n), v), (_, _, st, _) => match ins with
    | .invokevirtual _ => bif Nat.ble ((st.drop n).map Value.category).sum 8 && Nat.ble n st.length && isObj v (st.take n).reverse then some (a, (st.take n).reverse, st.drop n) else none
    | .invokestatic _ => bif Nat.ble ((st.drop n).map Value.category).sum 8 && Nat.ble n st.length && Nat.blt a 999 then some (a, (st.take n).reverse, st.drop n) else none
    | _ => none
/-- returns: 0 nothing, 1 a number, 2 true or false -/
def rtn (rk : Nat) : Instr → List Value → Option (Prop × Option Value)
  | .return_, [] => match rk with | 0 => some (True, none) | _ => none
  | .ireturn, [.int x] => match rk with | 1 => some (True, some (.int x)) | 2 => some (x = 0 ∨ x = 1, some (.int x)) | _ => none
  | _, _ => none
/-- fewer locals are known -/
def fgt : List (Option Value) → List (Option Value) → Prop
  | [], [] => True
  | o :: L, p :: K => (p = none ∨ p = o) ∧ fgt L K
  | _, _ => False
def isI : Value → Bool
  | .int _ => true
  | _ => false
def isL : Value → Bool
  | .long _ => true
  | _ => false
/-- is this the instruction at pc of the method -/
def okI (mi pc : Nat) : AI → Bool
  | (ins, len, (a, b), v) => decide (decode (mB mi) pc = .ok (ins, len)) && (match ins with
    | .istore_n n => Nat.blt n (mL mi) && Nat.beq len 1
    | .istore n => Nat.blt n (mL mi) && Nat.beq len 2
    | .lstore_n n => Nat.blt (n + 1) (mL mi) && Nat.beq len 1
    | .lstore n => Nat.blt (n + 1) (mL mi) && Nat.beq len 2
    | .iinc n k => Nat.blt n (mL mi) && Nat.beq len 3 && decide (v = .int (Int32.ofInt k))
    | .iconst k => Nat.beq len 1 && decide (v = .int (Int32.ofInt k))
    | .bipush k => Nat.beq len 2 && decide (v = .int (Int8.ofInt k).toInt32)
    | .sipush k => Nat.beq len 3 && decide (v = .int (Int16.ofInt k).toInt32)
    | .lconst k => Nat.beq len 1 && decide (v = .long (Int64.ofNat k))
    | .iload _ => Nat.beq len 2
    | .lload _ => Nat.beq len 2
    | .iload_n _ => Nat.beq len 1
    | .lload_n _ => Nat.beq len 1
    | .aload_n _ => Nat.beq len 1
    | .ldc k => Nat.beq len 2 && isI v && decide (((mC mi, k), v) ∈ q_con)
    | .ldc_w k => Nat.beq len 3 && isI v && decide (((mC mi, k), v) ∈ q_con)
    | .ldc2_w k => Nat.beq len 3 && isL v && decide (((mC mi, k), v) ∈ q_con)
    | .getfield k => decide (((mC mi, k), (a, b)) ∈ q_fld)
    | .putfield k => decide (((mC mi, k), (a, b)) ∈ q_fld)
    | .getstatic k => Nat.beq len 3 && decide (((mC mi, k), (a, b)) ∈ q_sta)
    | .invokevirtual k => decide (((mC mi, k), (a, b)) ∈ q_virt) && decide (v = .retAddr (mC a))
    | .invokestatic k => decide (((mC mi, k), (a, b)) ∈ q_stat)
    | .goto o => decide ((pc : Int) + o = (a : Int))
    | .if_icmp _ o => decide ((pc : Int) + o = (a : Int))
    | .ifCond _ o => decide ((pc : Int) + o = (a : Int))
    | .lookupswitch _ ps => (ps.toList.zip (ps.toList.drop 1)).all (fun (a, next) => a.1 < next.1)
    | .tableswitch _ lo hi offs => decide (lo ≤ hi) && decide ((offs.size : Int) = hi - lo + 1)
    | .putstatic _ => false
    | _ => true) && (match ins with
    | .getfield _ => Nat.beq len 3
    | .putfield _ => Nat.beq len 3
    | .invokevirtual _ => Nat.beq len 3
    | .invokestatic _ => Nat.beq len 3
    | .goto _ => Nat.beq len 3
    | .if_icmp _ _ => Nat.beq len 3
    | .ifCond _ _ => Nat.beq len 3
    | .lookupswitch _ _ => true
    | .tableswitch _ _ _ _ => true
    | .istore_n _ => true
    | .istore _ => true
    | .lstore_n _ => true
    | .lstore _ => true
    | .iinc _ _ => true
    | .bipush _ => true
    | .sipush _ => true
    | .iload _ => true
    | .lload _ => true
    | .ldc _ => true
    | .ldc_w _ => true
    | .ldc2_w _ => true
    | .getstatic _ => true
    | _ => Nat.beq len 1)
def nxt (pc : Nat) : AI → Nat
  | (ins, len, (a, _), _) => match ins with
    | .goto _ => a
    | _ => pc + len
def okB (mi : Nat) : Nat → List AI → Bool
  | _, [] => true
  | pc, i :: is => okI mi pc i && okB mi (nxt pc i) is
/-- a call's contract: at what it comes to -/
abbrev Ko : Type := Nat → List Value → Mm → (Option Value → Mm → Prop) → Prop
def Kmono (K : Ko) : Prop := ∀ (j : Nat) (as : List Value) (M : Mm) (P Q : Option Value → Mm → Prop), (∀ r M', P r M' → Q r M') → K j as M P → K j as M Q
/-- what is closed under the machine's steps, backwards -/
def Clo (K : Ko) (mi : Nat) (Post : Option Value → Mm → Prop) (X : Cf → Prop) : Prop :=
  (∀ (i : AI) (c : Cf) (g : Option Prop) (c' : Cf), okI mi c.1 i = true → ex1 i c = some (g, c') → (∀ q, g = some q → q) → X c' → X c) ∧
  (∀ (i : AI) (c : Cf) (P : Prop) (c1 c2 : Cf), okI mi c.1 i = true → brc i c = some (P, c1, c2) → (P → X c1) → (¬ P → X c2) → X c) ∧
  (∀ (i : AI) (pc t : Nat) (x : Int32) (L : List (Option Value)) (st : List Value) (M : Mm), okI mi pc i = true → (∃ d lo hi o, i.1 = .tableswitch d lo hi o) ∨ (∃ d ps, i.1 = .lookupswitch d ps) → (pc : Int) + swOff i.1 x = (t : Int) → X (t, L, st, M) → X (pc, L, .int x :: st, M)) ∧
  (∀ (i : AI) (pc j : Nat) (L : List (Option Value)) (st as rest : List Value) (M : Mm), okI mi pc i = true → inv i (pc, L, st, M) = some (j, as, rest) → K j as M (fun r M' => X (pc + 3, L, r.toList ++ rest, M')) → X (pc, L, st, M)) ∧
  (∀ (pc : Nat) (L L' : List (Option Value)) (st : List Value) (M : Mm), fgt L L' → X (pc, L', st, M) → X (pc, L, st, M)) ∧
  (∀ (i : AI) (pc : Nat) (L : List (Option Value)) (st : List Value) (M : Mm) (g : Prop) (r : Option Value), okI mi pc i = true → rtn (mR mi) i.1 st = some (g, r) → g → Post r M → X (pc, L, st, M))
/-- from here the method returns, with Post -/
def WP (K : Ko) (mi : Nat) (Post : Option Value → Mm → Prop) (c : Cf) : Prop := ∀ X : Cf → Prop, Clo K mi Post X → X c
def entL : Nat → List Value → List (Option Value)
  | n, [] => List.replicate n none
  | n, .long x :: vs => some (.long x) :: none :: entL (n - 2) vs
  | n, .double _ :: vs => none :: none :: entL (n - 2) vs
  | n, v :: vs => some v :: entL (n - 1) vs
/-- the methods' contracts, calls at most d deep -/
def Ct : Nat → Ko
  | 0, _, _, _, _ => False
  | d + 1, j, as, M, Post => (as.map Value.category).sum ≤ mL j ∧ WP (Ct d) j Post (0, entL (mL j) as, [], M)
