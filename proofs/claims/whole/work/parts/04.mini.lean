/-! THE SMALL MACHINE: cells by numbers, fields and rows as functions, fuel and depth as numbers -/
/-- the cells: kind (own class 0 .. 12; rows 20 int, 21 long, 22 boolean; 24 the script, 25 the letters), length (of Ints, Longs: limit + 1, 0 not yet made), references by slots (0 none, a + 1) -/
abbrev mi_G : Type := List (Nat × Nat × List Nat)
abbrev mi_D : Type := (Nat → Nat → Int32) × (Nat → Nat → Int32) × (Nat → Nat → Int64)
abbrev mi_H : Type := (Nat → Nat) × Nat × Nat
abbrev mi_S : Type := mi_G × mi_D × mi_H
def mi_k (g : mi_G) (a : Nat) : Nat := match g[a]? with
  | some q => q.1
  | none => 99
def mi_len (g : mi_G) (a : Nat) : Nat := match g[a]? with
  | some q => q.2.1
  | none => 0
def mi_rs (g : mi_G) (a : Nat) : List Nat := match g[a]? with
  | some q => q.2.2
  | none => []
def mi_val (n : Nat) : Value := match n with
  | 0 => .null
  | a + 1 => .ref a
def mi_setI (δ : mi_D) (a k : Nat) (v : Int32) : mi_D := (fun x j => if x = a ∧ j = k then v else δ.1 x j, δ.2)
def mi_setA (δ : mi_D) (a k : Nat) (v : Int32) : mi_D := (δ.1, fun x j => if x = a ∧ j = k then v else δ.2.1 x j, δ.2.2)
def mi_setL (δ : mi_D) (a k : Nat) (v : Int64) : mi_D := (δ.1, δ.2.1, fun x j => if x = a ∧ j = k then v else δ.2.2 x j)
/-- a new cell: all its numbers are 0 -/
def mi_zero (δ : mi_D) (a : Nat) : mi_D := (fun x j => if x = a then 0 else δ.1 x j, fun x j => if x = a then 0 else δ.2.1 x j, fun x j => if x = a then 0 else δ.2.2 x j)
/-- Longs.clear -/
def mi_clrL (δ : mi_D) (a : Nat) : mi_D := (δ.1, δ.2.1, fun x j => if x = a then 0 else δ.2.2 x j)
def mi_grow (lim cap i : Nat) : Nat := if i < cap then cap else max (i + 1) (min lim (2 * cap))
def mi_put (h : mi_H) (lim a i : Nat) : mi_H := if i < h.1 a then h else (fun x => if x = a then mi_grow lim (h.1 a) i else h.1 x, h.2.1 + 1, h.2.2 + mi_grow lim (h.1 a) i)
def mi_tgt (pc : Nat) (off : Int) : Option Nat := match (pc : Int) + off with
  | .ofNat t => some t
  | .negSucc _ => none
def mi_c0 (c : ClassFile.Cond) (x : Int32) : Bool := match c with
  | .eq => decide (x = 0)
  | .ne => !decide (x = 0)
  | .lt => decide (x < 0)
  | .ge => !decide (x < 0)
  | .gt => decide (0 < x)
  | .le => !decide (0 < x)
def mi_c2 (c : ClassFile.Cond) (x y : Int32) : Bool := match c with
  | .eq => decide (x = y)
  | .ne => !decide (x = y)
  | .lt => decide (x < y)
  | .ge => !decide (x < y)
  | .gt => decide (y < x)
  | .le => !decide (y < x)
def mi_ld (L : List Value) (i : Nat) : Value := L.getD i .null
/-- a store of one slot; a long that stood across it is gone -/
def mi_kill (L : List Value) (i : Nat) : List Value := match i with
  | 0 => L
  | j + 1 => if (mi_ld L j).category = 2 then L.set j .null else L
def mi_st1 (L : List Value) (i : Nat) (v : Value) : List Value := (mi_kill L i).set i v
def mi_st2 (L : List Value) (i : Nat) (v : Value) : List Value := ((mi_kill L i).set i v).set (i + 1) .null
/-- what changes the frame alone -/
def mi_pure (own : Nat) (ins : Instr) (len pc : Nat) (L st : List Value) : Option (Nat × List Value × List Value) := match ins with
  | .iconst n => if len = 1 then some (pc + 1, L, .int (Int32.ofInt n) :: st) else none
  | .bipush n => if len = 2 then some (pc + 2, L, .int (Int8.ofInt n).toInt32 :: st) else none
  | .sipush n => if len = 3 then some (pc + 3, L, .int (Int16.ofInt n).toInt32 :: st) else none
  | .lconst n => if len = 1 then some (pc + 1, L, .long (Int64.ofNat (n : Nat)) :: st) else none
  | .ldc i => if len = 2 then (match mi_KI own i with | some v => some (pc + 2, L, .int v :: st) | none => none) else none
  | .ldc2_w i => if len = 3 then (match mi_KL own i with | some v => some (pc + 3, L, .long v :: st) | none => none) else none
  | .iload_n k => if len = 1 then (match mi_ld L k with | .int x => some (pc + 1, L, .int x :: st) | _ => none) else none
  | .iload i => if len = 2 then (match mi_ld L i with | .int x => some (pc + 2, L, .int x :: st) | _ => none) else none
  | .lload_n k => if len = 1 then (match mi_ld L k with | .long x => some (pc + 1, L, .long x :: st) | _ => none) else none
  | .lload i => if len = 2 then (match mi_ld L i with | .long x => some (pc + 2, L, .long x :: st) | _ => none) else none
  | .aload_n k => if len = 1 then (match mi_ld L k with | .ref x => some (pc + 1, L, .ref x :: st) | _ => none) else none
  | .aload i => if len = 2 then (match mi_ld L i with | .ref x => some (pc + 2, L, .ref x :: st) | _ => none) else none
  | .istore_n k => if len = 1 ∧ (k : Nat) < L.length then (match st with | .int x :: r => some (pc + 1, mi_st1 L k (.int x), r) | _ => none) else none
  | .istore i => if len = 2 ∧ i < L.length then (match st with | .int x :: r => some (pc + 2, mi_st1 L i (.int x), r) | _ => none) else none
  | .lstore_n k => if len = 1 ∧ (k : Nat) + 1 < L.length then (match st with | .long x :: r => some (pc + 1, mi_st2 L k (.long x), r) | _ => none) else none
  | .lstore i => if len = 2 ∧ i + 1 < L.length then (match st with | .long x :: r => some (pc + 2, mi_st2 L i (.long x), r) | _ => none) else none
  | .astore_n k => if len = 1 ∧ (k : Nat) < L.length then (match st with | .ref x :: r => some (pc + 1, mi_st1 L k (.ref x), r) | _ => none) else none
  | .astore i => if len = 2 ∧ i < L.length then (match st with | .ref x :: r => some (pc + 2, mi_st1 L i (.ref x), r) | _ => none) else none
  | .iinc i n => if len = 3 ∧ i < L.length then (match mi_ld L i with | .int x => some (pc + 3, mi_st1 L i (.int (x + Int32.ofInt n)), st) | _ => none) else none
  | .iadd => if len = 1 then (match st with | .int y :: .int x :: r => some (pc + 1, L, .int (x + y) :: r) | _ => none) else none
  | .isub => if len = 1 then (match st with | .int y :: .int x :: r => some (pc + 1, L, .int (x - y) :: r) | _ => none) else none
  | .imul => if len = 1 then (match st with | .int y :: .int x :: r => some (pc + 1, L, .int (x * y) :: r) | _ => none) else none
  | .iand => if len = 1 then (match st with | .int y :: .int x :: r => some (pc + 1, L, .int (x &&& y) :: r) | _ => none) else none
  | .ior => if len = 1 then (match st with | .int y :: .int x :: r => some (pc + 1, L, .int (x ||| y) :: r) | _ => none) else none
  | .ixor => if len = 1 then (match st with | .int y :: .int x :: r => some (pc + 1, L, .int (x ^^^ y) :: r) | _ => none) else none
  | .idiv => if len = 1 then (match st with | .int y :: .int x :: r => if y = 0 then none else some (pc + 1, L, .int (x / y) :: r) | _ => none) else none
  | .irem => if len = 1 then (match st with | .int y :: .int x :: r => if y = 0 then none else some (pc + 1, L, .int (x - x / y * y) :: r) | _ => none) else none
  | .ladd => if len = 1 then (match st with | .long y :: .long x :: r => some (pc + 1, L, .long (x + y) :: r) | _ => none) else none
  | .lsub => if len = 1 then (match st with | .long y :: .long x :: r => some (pc + 1, L, .long (x - y) :: r) | _ => none) else none
  | .lmul => if len = 1 then (match st with | .long y :: .long x :: r => some (pc + 1, L, .long (x * y) :: r) | _ => none) else none
  | .land => if len = 1 then (match st with | .long y :: .long x :: r => some (pc + 1, L, .long (x &&& y) :: r) | _ => none) else none
  | .lor => if len = 1 then (match st with | .long y :: .long x :: r => some (pc + 1, L, .long (x ||| y) :: r) | _ => none) else none
  | .lxor => if len = 1 then (match st with | .long y :: .long x :: r => some (pc + 1, L, .long (x ^^^ y) :: r) | _ => none) else none
  | .ldiv => if len = 1 then (match st with | .long y :: .long x :: r => if y = 0 then none else some (pc + 1, L, .long (x / y) :: r) | _ => none) else none
  | .lrem => if len = 1 then (match st with | .long y :: .long x :: r => if y = 0 then none else some (pc + 1, L, .long (x - x / y * y) :: r) | _ => none) else none
  | .lneg => if len = 1 then (match st with | .long x :: r => some (pc + 1, L, .long (-x) :: r) | _ => none) else none
  | .ishl => if len = 1 then (match st with | .int y :: .int x :: r => some (pc + 1, L, .int (x <<< (y &&& 31)) :: r) | _ => none) else none
  | .ishr => if len = 1 then (match st with | .int y :: .int x :: r => some (pc + 1, L, .int (x >>> (y &&& 31)) :: r) | _ => none) else none
  | .lshl => if len = 1 then (match st with | .int y :: .long x :: r => some (pc + 1, L, .long (x <<< (y.toInt64 &&& 63)) :: r) | _ => none) else none
  | .lshr => if len = 1 then (match st with | .int y :: .long x :: r => some (pc + 1, L, .long (x >>> (y.toInt64 &&& 63)) :: r) | _ => none) else none
  | .lushr => if len = 1 then (match st with | .int y :: .long x :: r => some (pc + 1, L, .long ((x.toUInt64 >>> (y.toInt64.toUInt64 &&& Int64.toUInt64 63)).toInt64) :: r) | _ => none) else none
  | .i2l => if len = 1 then (match st with | .int x :: r => some (pc + 1, L, .long x.toInt64 :: r) | _ => none) else none
  | .l2i => if len = 1 then (match st with | .long x :: r => some (pc + 1, L, .int x.toInt32 :: r) | _ => none) else none
  | .lcmp => if len = 1 then (match st with | .long y :: .long x :: r => some (pc + 1, L, .int (lg_cmp x y) :: r) | _ => none) else none
  | .dup => if len = 1 then (match st with | v :: r => if v.category = 1 then some (pc + 1, L, v :: v :: r) else none | _ => none) else none
  | .dup_x1 => if len = 1 then (match st with | v :: w :: r => if v.category = 1 ∧ w.category = 1 then some (pc + 1, L, v :: w :: v :: r) else none | _ => none) else none
  | .dup2 => if len = 1 then (match st with | v :: w :: r => if v.category = 1 ∧ w.category = 1 then some (pc + 1, L, v :: w :: v :: w :: r) else none | _ => none) else none
  | .pop => if len = 1 then (match st with | v :: r => if v.category = 1 then some (pc + 1, L, r) else none | _ => none) else none
  | .ifCond c off => if len = 3 then (match st with | .int x :: r => (match mi_tgt pc off with | some t => some (cond (mi_c0 c x) t (pc + 3), L, r) | none => none) | _ => none) else none
  | .if_icmp c off => if len = 3 then (match st with | .int y :: .int x :: r => (match mi_tgt pc off with | some t => some (cond (mi_c2 c x y) t (pc + 3), L, r) | none => none) | _ => none) else none
  | .goto off => if len = 3 then (match mi_tgt pc off with | some t => some (t, L, st) | none => none) else none
  | .tableswitch dflt lo hi offs => (match st with
    | .int x :: r => if x.toInt < lo ∨ hi < x.toInt then (match mi_tgt pc dflt with | some t => some (t, L, r) | none => none)
        else (match offs[(x.toInt - lo).toNat]? with | some off => (match mi_tgt pc off with | some t => some (t, L, r) | none => none) | none => none)
    | _ => none)
  | .lookupswitch dflt ps => (match st with
    | .int x :: r => if (ps.toList.zip (ps.toList.drop 1)).all (fun (a, next) => a.1 < next.1) = true then (match mi_tgt pc (Op.lookupswitch.offset ps.toList dflt x.toInt) with | some t => some (t, L, r) | none => none) else none
    | _ => none)
  | _ => none
/-- an index within, to be decided -/
def mi_ix (i : Int32) (n : Nat) : Bool := !decide (i < 0) && decide (i.toNatClampNeg < n)
/-- the twelve rows given for whole, by number: what lies on the stack and in the cells afterwards -/
def mi_prim (pk : Nat) (st : List Value) (σ : mi_S) : Option (List Value × mi_S) := match pk with
  | 0 => (match st with | .int n :: .ref a :: r => if mi_k σ.1 a = 3 ∧ mi_len σ.1 a = 0 ∧ ¬ n < 0 ∧ n.toNatClampNeg < 1000000 then some (r, (σ.1.set a (3, n.toNatClampNeg + 1, []), mi_zero σ.2.1 a, (fun x => if x = a then 16 else σ.2.2.1 x, σ.2.2.2.1 + 1, σ.2.2.2.2 + 16))) else none | _ => none)
  | 1 => (match st with | .int i :: .ref a :: r => if mi_k σ.1 a = 3 ∧ mi_len σ.1 a ≠ 0 then some (.int (if i < 0 then 0 else σ.2.1.2.1 a i.toNatClampNeg) :: r, σ) else none | _ => none)
  | 2 => (match st with | .int v :: .int i :: .ref a :: r => if mi_k σ.1 a = 3 ∧ mi_len σ.1 a ≠ 0 then (if i < 0 ∨ mi_len σ.1 a ≤ i.toNatClampNeg + 1 then some (r, σ) else some (r, (σ.1, mi_setA σ.2.1 a i.toNatClampNeg v, mi_put σ.2.2 (mi_len σ.1 a - 1) a i.toNatClampNeg))) else none | _ => none)
  | 3 => (match st with | .int n :: .ref a :: r => if mi_k σ.1 a = 6 ∧ mi_len σ.1 a = 0 ∧ ¬ n < 0 ∧ n.toNatClampNeg < 1000000 then some (r, (σ.1.set a (6, n.toNatClampNeg + 1, []), mi_zero σ.2.1 a, (fun x => if x = a then 16 else σ.2.2.1 x, σ.2.2.2.1 + 1, σ.2.2.2.2 + 16))) else none | _ => none)
  | 4 => (match st with | .int i :: .ref a :: r => if mi_k σ.1 a = 6 ∧ mi_len σ.1 a ≠ 0 then some (.long (if i < 0 then 0 else σ.2.1.2.2 a i.toNatClampNeg) :: r, σ) else none | _ => none)
  | 5 => (match st with | .long v :: .int i :: .ref a :: r => if mi_k σ.1 a = 6 ∧ mi_len σ.1 a ≠ 0 then (if i < 0 ∨ mi_len σ.1 a ≤ i.toNatClampNeg + 1 then some (r, σ) else some (r, (σ.1, mi_setL σ.2.1 a i.toNatClampNeg v, mi_put σ.2.2 (mi_len σ.1 a - 1) a i.toNatClampNeg))) else none | _ => none)
  | 6 => (match st with | .long v :: .int i :: .ref a :: r => if mi_k σ.1 a = 6 ∧ mi_len σ.1 a ≠ 0 then (if i < 0 ∨ mi_len σ.1 a ≤ i.toNatClampNeg + 1 then some (r, σ) else some (r, (σ.1, mi_setL σ.2.1 a i.toNatClampNeg (σ.2.1.2.2 a i.toNatClampNeg + v), mi_put σ.2.2 (mi_len σ.1 a - 1) a i.toNatClampNeg))) else none | _ => none)
  | 7 => (match st with | .ref a :: r => if mi_k σ.1 a = 6 ∧ mi_len σ.1 a ≠ 0 then some (r, (σ.1, mi_clrL σ.2.1 a, σ.2.2)) else none | _ => none)
  | 8 => (match st with | .long x :: r => some (.long (if 0 < x then x else -x) :: r, σ) | _ => none)
  | 9 => (match st with | .int y :: .int x :: r => some (.int (if y < x then y else x) :: r, σ) | _ => none)
  | 10 => (match st with | .int y :: .int x :: r => some (.int (if x < y then y else x) :: r, σ) | _ => none)
  | 11 => (match st with | .ref _ :: r => some (r, σ) | _ => none)
  | _ => none
def mi_cat (st : List Value) : Nat := (st.map fun v => v.category).sum
/-- what reads or changes the cells; 'ini' = class of the constructor that runs, or 99 -/
def mi_heap (own ini d : Nat) (ins : Instr) (len : Nat) (st : List Value) (σ : mi_S) : Option (List Value × mi_S) := match ins with
  | .getfield i => if len = 3 then (match mi_F own i, st with
    | some (k, s), .ref a :: r => if mi_k σ.1 a = k then (match mi_Ty k s with
        | .int | .boolean => some (.int (σ.2.1.1 a s) :: r, σ)
        | .object _ | .array _ => (match (mi_rs σ.1 a).getD s 0 with | 0 => none | b + 1 => some (.ref b :: r, σ))
        | _ => none) else none
    | _, _ => none) else none
  | .putfield i => if len = 3 then (match mi_F own i, st with
    | some (k, s), .int v :: .ref a :: r => if mi_k σ.1 a = k ∧ (mi_T k s).2.2.2 = false then (match mi_Ty k s with
        | .int => some (r, (σ.1, mi_setI σ.2.1 a s v, σ.2.2))
        | .boolean => if v = 0 ∨ v = 1 then some (r, (σ.1, mi_setI σ.2.1 a s v, σ.2.2)) else none
        | _ => none) else none
    | some (k, s), .ref b :: .ref a :: r => if mi_k σ.1 a = k ∧ (mi_T k s).2.2.2 = true ∧ ini = k ∧ own = k ∧ s < (mi_rs σ.1 a).length then (match mi_Ty k s with
        | .object _ | .array _ => some (r, (σ.1.set a (k, mi_len σ.1 a, (mi_rs σ.1 a).set s (b + 1)), σ.2))
        | _ => none) else none
    | _, _ => none) else none
  | .getstatic i => if len = 3 ∧ (own, i) = mi_let ∧ mi_k σ.1 1 = 25 then some (.ref 1 :: st, σ) else none
  | .iaload => if len = 1 then (match st with | .int i :: .ref a :: r => if (mi_k σ.1 a = 20 ∨ mi_k σ.1 a = 24) ∧ mi_ix i (mi_len σ.1 a) = true then some (.int (σ.2.1.2.1 a i.toNatClampNeg) :: r, σ) else none | _ => none) else none
  | .baload => if len = 1 then (match st with | .int i :: .ref a :: r => if mi_k σ.1 a = 22 ∧ mi_ix i (mi_len σ.1 a) = true then some (.int (σ.2.1.2.1 a i.toNatClampNeg) :: r, σ) else none | _ => none) else none
  | .caload => if len = 1 then (match st with | .int i :: .ref a :: r => if mi_k σ.1 a = 25 ∧ mi_ix i (mi_len σ.1 a) = true then some (.int (σ.2.1.2.1 a i.toNatClampNeg) :: r, σ) else none | _ => none) else none
  | .laload => if len = 1 then (match st with | .int i :: .ref a :: r => if mi_k σ.1 a = 21 ∧ mi_ix i (mi_len σ.1 a) = true then some (.long (σ.2.1.2.2 a i.toNatClampNeg) :: r, σ) else none | _ => none) else none
  | .iastore => if len = 1 then (match st with | .int v :: .int i :: .ref a :: r => if mi_k σ.1 a = 20 ∧ mi_ix i (mi_len σ.1 a) = true then some (r, (σ.1, mi_setA σ.2.1 a i.toNatClampNeg v, σ.2.2)) else none | _ => none) else none
  | .bastore => if len = 1 then (match st with | .int v :: .int i :: .ref a :: r => if mi_k σ.1 a = 22 ∧ mi_ix i (mi_len σ.1 a) = true ∧ (v = 0 ∨ v = 1) then some (r, (σ.1, mi_setA σ.2.1 a i.toNatClampNeg v, σ.2.2)) else none | _ => none) else none
  | .lastore => if len = 1 then (match st with | .long v :: .int i :: .ref a :: r => if mi_k σ.1 a = 21 ∧ mi_ix i (mi_len σ.1 a) = true then some (r, (σ.1, mi_setL σ.2.1 a i.toNatClampNeg v, σ.2.2)) else none | _ => none) else none
  | .arraylength => if len = 1 then (match st with | .ref a :: r => if 20 ≤ mi_k σ.1 a ∧ mi_k σ.1 a ≤ 25 ∧ mi_k σ.1 a ≠ 23 then some (.int (nI (mi_len σ.1 a)) :: r, σ) else none | _ => none) else none
  | .new i => if len = 3 then (match mi_W own i with
    | some k => some (.ref σ.1.length :: st, (σ.1 ++ [(k, 0, List.replicate (mi_n k) 0)], mi_zero σ.2.1 σ.1.length, (σ.2.2.1, σ.2.2.2.1 + 1, σ.2.2.2.2 + mi_n k)))
    | none => none) else none
  | .newarray t => if len = 2 then (match st with
    | .int n :: r => if ¬ n < 0 ∧ n.toNatClampNeg < 1000000 then (match t with
        | .int => some (.ref σ.1.length :: r, (σ.1 ++ [(20, n.toNatClampNeg, [])], mi_zero σ.2.1 σ.1.length, (σ.2.2.1, σ.2.2.2.1 + 1, σ.2.2.2.2 + n.toNatClampNeg)))
        | .long => some (.ref σ.1.length :: r, (σ.1 ++ [(21, n.toNatClampNeg, [])], mi_zero σ.2.1 σ.1.length, (σ.2.2.1, σ.2.2.2.1 + 1, σ.2.2.2.2 + n.toNatClampNeg)))
        | .boolean => some (.ref σ.1.length :: r, (σ.1 ++ [(22, n.toNatClampNeg, [])], mi_zero σ.2.1 σ.1.length, (σ.2.2.1, σ.2.2.2.1 + 1, σ.2.2.2.2 + n.toNatClampNeg)))
        | _ => none) else none
    | _ => none) else none
  | .invokevirtual i => if len = 3 ∧ 5 ≤ d ∧ mi_cat st ≤ 8 then (match mi_Q own i with | some pk => if pk = 0 ∨ pk = 3 ∨ pk = 8 ∨ pk = 9 ∨ pk = 10 ∨ pk = 11 then none else mi_prim pk st σ | none => none) else none
  | .invokespecial i => if len = 3 ∧ 5 ≤ d ∧ mi_cat st ≤ 8 then (match mi_Q own i with | some pk => if pk = 0 ∨ pk = 3 ∨ pk = 11 then mi_prim pk st σ else none | none => none) else none
  | .invokestatic i => if len = 3 ∧ 5 ≤ d ∧ mi_cat st ≤ 8 then (match mi_Q own i with | some pk => if pk = 8 ∨ pk = 9 ∨ pk = 10 then mi_prim pk st σ else none | none => none) else none
  | _ => none
def mi_pop (n : Nat) (st : List Value) : Option (List Value × List Value) := if n ≤ st.length then some ((st.take n).reverse, st.drop n) else none
def mi_entry (vs : List Value) (n : Nat) : List Value := (lg_sl vs ++ List.replicate (n - (lg_sl vs).length) Slot.unset).map (fun z => match z with | .val v => v | _ => .null)
def mi_rok (g : mi_G) (k : Nat) (as : List Value) : Bool := match as with
  | .ref a :: _ => decide (mi_k g a = k)
  | _ => false
/-- a call of an own method: its number, the values that it takes, what is left -/
def mi_call (own : Nat) (ins : Instr) (len : Nat) (st : List Value) (g : mi_G) : Option (Nat × List Value × List Value) :=
  match (match ins with | .invokevirtual i => some (i, 0) | .invokestatic i => some (i, 1) | .invokespecial i => some (i, 2) | _ => none) with
  | none => none
  | some (i, sort) => if len = 3 then (match mi_C own i with
    | none => none
    | some (z, n, kd) => if (kd = 0 ∧ sort = 0) ∨ ((kd = 1 ∨ kd = 4) ∧ sort = 1) ∨ ((kd = 2 ∨ kd = 3) ∧ sort = 2) then (match mi_pop n st with
        | none => none
        | some (as, r) => if mi_cat r ≤ 8 ∧ (lg_sl as).length ≤ mi_L z ∧ (kd = 1 ∨ kd = 4 ∨ mi_rok g (mi_O z) as = true) then some (z, as, r) else none) else none) else none
def mi_ret (y : Nat) (ins : Instr) (len : Nat) (st : List Value) : Option (Option Value) := match ins with
  | .ireturn => if len = 1 then (match st, mi_R y with
    | [.int v], some .int => some (some (.int v))
    | [.int v], some .boolean => if v = 0 ∨ v = 1 then some (some (.int v)) else none
    | _, _ => none) else none
  | .lreturn => if len = 1 then (match st, mi_R y with
    | [.long v], some .long => some (some (.long v))
    | _, _ => none) else none
  | .return_ => if len = 1 then (match st, mi_R y with
    | [], none => some none
    | _, _ => none) else none
  | _ => none
def mi_ini (y : Nat) : Nat := if mi_X y = true then mi_O y else 99
def mi_run : Nat → Nat → Nat → Nat → List Value → List Value → mi_S → Option (Option Value × mi_S)
  | 0, _, _, _, _, _, _ => none
  | n + 1, d, y, pc, L, st, σ => match decode (mi_B y) pc with
    | .error _ => none
    | .ok (ins, len) => match mi_pure (mi_O y) ins len pc L st with
      | some (pc', L', st') => mi_run n d y pc' L' st' σ
      | none => match mi_heap (mi_O y) (mi_ini y) d ins len st σ with
        | some (st', σ') => mi_run n d y (pc + len) L st' σ'
        | none => match mi_call (mi_O y) ins len st σ.1 with
          | some (z, as, r) => (match d with
            | 0 => none
            | d' + 1 => match mi_run n d' z 0 (mi_entry as (mi_L z)) [] σ with
              | some (v, σ') => mi_run n (d' + 1) y (pc + 3) L (v.toList ++ r) σ'
              | none => none)
          | none => match mi_ret y ins len st with
            | some v => some (v, σ)
            | none => none
theorem mi_run_succ : ∀ (n d y pc : Nat) (L st : List Value) (σ : mi_S) (r : Option Value × mi_S), mi_run n d y pc L st σ = some r → mi_run (n + 1) d y pc L st σ = some r := by
  intro n
  induction n with
  | zero => intro d y pc L st σ r h; simp [mi_run] at h
  | succ n ih =>
    intro d y pc L st σ r h
    rw [mi_run] at h ⊢
    cases hd : decode (mi_B y) pc with
    | error e => rw [hd] at h; cases h
    | ok q =>
      obtain ⟨ins, len⟩ := q
      rw [hd] at h
      dsimp only at h ⊢
      cases hp : mi_pure (mi_O y) ins len pc L st with
      | some q =>
        obtain ⟨pc', L', st'⟩ := q
        rw [hp] at h
        exact ih _ _ _ _ _ _ _ h
      | none =>
        rw [hp] at h
        dsimp only at h ⊢
        cases hh : mi_heap (mi_O y) (mi_ini y) d ins len st σ with
        | some q =>
          obtain ⟨st', σ'⟩ := q
          rw [hh] at h
          exact ih _ _ _ _ _ _ _ h
        | none =>
          rw [hh] at h
          dsimp only at h ⊢
          cases hc : mi_call (mi_O y) ins len st σ.1 with
          | some q =>
            obtain ⟨z, as, r'⟩ := q
            rw [hc] at h
            cases d with
            | zero => cases h
            | succ d' =>
              dsimp only at h ⊢
              cases hv : mi_run n d' z 0 (mi_entry as (mi_L z)) [] σ with
              | some q =>
                obtain ⟨v, σ'⟩ := q
                rw [hv] at h
                rw [ih _ _ _ _ _ _ _ hv]
                exact ih _ _ _ _ _ _ _ h
              | none => rw [hv] at h; cases h
          | none => rw [hc] at h; exact h
theorem mi_run_le {n m : Nat} (hm : n ≤ m) {d y pc : Nat} {L st : List Value} {σ : mi_S} {r : Option Value × mi_S} (h : mi_run n d y pc L st σ = some r) : mi_run m d y pc L st σ = some r := by
  induction hm with
  | refl => exact h
  | step _ ih => exact mi_run_succ _ _ _ _ _ _ _ _ ih
