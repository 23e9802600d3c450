/-! A small machine of our own over pure states: numbers are integers, references are places in a list of shapes. Its code and tables are those of part 01. Part 04 shows that what it does the machine does. -/
-- values: an int, a long, a reference (a place)
abbrev pz_V : Type := Int ⊕ (Int64 ⊕ Option Nat)
-- a heap: shapes (class number and number of fields; 100 int[], 101 long[], 102 references, 103 the script, and length), ints, longs, references, cells made, slots made
abbrev pz_H : Type := List (Nat × Nat) × (Nat → Nat → Int) × (Nat → Nat → Int64) × (Nat → Nat → Option Nat) × Nat × Nat
-- a frame: pc, operand stack, locals, heap, all conditions held so far
abbrev pz_S : Type := Nat × List pz_V × List (Nat × pz_V) × pz_H × Bool
-- how a method ends: it returns, or an exception of a kind leaves it
abbrev pz_O : Type := Option pz_V ⊕ Nat
def pz_in (a : Int) : Bool := decide (-2147483648 ≤ a) && decide (a ≤ 2147483647)
def pz_tag (v : pz_V) : Nat := match v with
  | .inl _ => 0
  | .inr (.inl _) => 2
  | .inr (.inr _) => 3
def pz_cat (v : pz_V) : Nat := match v with
  | .inl _ => 1
  | .inr (.inl _) => 2
  | .inr (.inr _) => 1
def pz_up {α : Type} (f : Nat → Nat → α) (p k : Nat) (v : α) : Nat → Nat → α := fun q j => if q = p ∧ j = k then v else f q j
def pz_sI (h : pz_H) (p k : Nat) (v : Int) : pz_H := (h.1, pz_up h.2.1 p k v, h.2.2.1, h.2.2.2.1, h.2.2.2.2)
def pz_sL (h : pz_H) (p k : Nat) (v : Int64) : pz_H := (h.1, h.2.1, pz_up h.2.2.1 p k v, h.2.2.2.1, h.2.2.2.2)
def pz_sR (h : pz_H) (p k : Nat) (v : Option Nat) : pz_H := (h.1, h.2.1, h.2.2.1, pz_up h.2.2.2.1 p k v, h.2.2.2.2)
-- a new cell, all its slots empty, behind the others
def pz_nw (h : pz_H) (c N : Nat) : pz_H := (h.1 ++ [(c, N)], (fun q j => if q = h.1.length then 0 else h.2.1 q j), (fun q j => if q = h.1.length then 0 else h.2.2.1 q j), (fun q j => if q = h.1.length then none else h.2.2.2.1 q j), h.2.2.2.2.1 + 1, h.2.2.2.2.2 + N)
def pz_is (h : pz_H) (p c N : Nat) : Bool := decide (h.1[p]? = some (c, N))
-- an index within the array at place p, of kind c
def pz_ix (h : pz_H) (p c : Nat) (i : Int) : Bool := match h.1[p]? with
  | some x => decide (x.1 = c) && (decide (0 ≤ i) && decide (i < (x.2 : Int)))
  | none => false
-- .. of an int[], the script's too (kind 103, place 0)
def pz_ixs (h : pz_H) (p : Nat) (i : Int) : Bool := match h.1[p]? with
  | some x => (decide (x.1 = 100) || decide (x.1 = 103)) && (decide (0 ≤ i) && decide (i < (x.2 : Int)))
  | none => false
def pz_ln (h : pz_H) (p : Nat) : Nat × Nat := (h.1[p]?).getD (0, 0)
def pz_gf (h : pz_H) (p k t : Nat) : pz_V := match t with
  | 2 => .inr (.inl (h.2.2.1 p k))
  | 3 => .inr (.inr (h.2.2.2.1 p k))
  | _ => .inl (h.2.1 p k)
def pz_pf (h : pz_H) (p k : Nat) (v : pz_V) : pz_H := match v with
  | .inl a => pz_sI h p k a
  | .inr (.inl x) => pz_sL h p k x
  | .inr (.inr r) => pz_sR h p k r
-- may a value lie in a field of this type: 0 int, 1 boolean, 2 long, 3 reference
def pz_fit (t : Nat) (v : pz_V) : Bool := match v with
  | .inl a => decide (t = 0) || (decide (t = 1) && (decide (a = 0) || decide (a = 1)))
  | .inr (.inl _) => decide (t = 2)
  | .inr (.inr _) => decide (t = 3)
-- locals (pz_look: part 01)
def pz_st1 (L : List (Nat × pz_V)) (i : Nat) (v : pz_V) : List (Nat × pz_V) := (i, v) :: L.filter (fun q => !(q.1 == i) && !(q.1 + 1 == i && pz_cat q.2 == 2))
def pz_st2 (L : List (Nat × pz_V)) (i : Nat) (v : pz_V) : List (Nat × pz_V) := (i, v) :: L.filter (fun q => !(q.1 == i) && (!(q.1 == i + 1) && !(q.1 + 1 == i && pz_cat q.2 == 2)))
def pz_args : Nat → List pz_V → List (Nat × pz_V)
  | _, [] => []
  | i, v :: vs => (i, v) :: pz_args (i + pz_cat v) vs
-- the kinds of steps
def pz_ld (t k n pc : Nat) (st : List pz_V) (L : List (Nat × pz_V)) (h : pz_H) : pz_S := match pz_look L k with
  | some v => (pc + n, v :: st, L, h, decide (pz_tag v = t))
  | none => (pc, st, L, h, false)
def pz_sto (t nL k n pc : Nat) (st : List pz_V) (L : List (Nat × pz_V)) (h : pz_H) : pz_S := match st with
  | v :: r => (pc + n, r, pz_st1 L k v, h, (decide (pz_tag v = t) && decide (k < nL)))
  | [] => (pc, st, L, h, false)
def pz_stl (nL k n pc : Nat) (st : List pz_V) (L : List (Nat × pz_V)) (h : pz_H) : pz_S := match st with
  | v :: r => (pc + n, r, pz_st2 L k v, h, (decide (pz_tag v = 2) && decide (k + 1 < nL)))
  | [] => (pc, st, L, h, false)
def pz_b2 (f : Int → Int → Int) (g : Int → Int → Bool) (n pc : Nat) (st : List pz_V) (L : List (Nat × pz_V)) (h : pz_H) : pz_S := match st with
  | .inl b :: .inl a :: r => (pc + n, .inl (f a b) :: r, L, h, g a b)
  | _ => (pc, st, L, h, false)
def pz_l2 (f : Int64 → Int64 → Int64) (n pc : Nat) (st : List pz_V) (L : List (Nat × pz_V)) (h : pz_H) : pz_S := match st with
  | .inr (.inl y) :: .inr (.inl x) :: r => (pc + n, .inr (.inl (f x y)) :: r, L, h, true)
  | _ => (pc, st, L, h, false)
def pz_ls (f : Int64 → Int32 → Int64) (n pc : Nat) (st : List pz_V) (L : List (Nat × pz_V)) (h : pz_H) : pz_S := match st with
  | .inl b :: .inr (.inl x) :: r => (pc + n, .inr (.inl (f x (Int32.ofInt b))) :: r, L, h, true)
  | _ => (pc, st, L, h, false)
def pz_br (c : Bool) (off : Int) (n pc : Nat) (r : List pz_V) (L : List (Nat × pz_V)) (h : pz_H) : pz_S := (bif c then ((pc : Int) + off).toNat else pc + n, r, L, h, decide (0 ≤ (pc : Int) + off))
def pz_cp (c : Jvm.ClassFile.Cond) (a b : Int) : Bool := match c with
  | .eq => decide (a = b)
  | .ne => !decide (a = b)
  | .lt => decide (a < b)
  | .ge => !decide (a < b)
  | .gt => decide (b < a)
  | .le => !decide (b < a)
def pz_i32 (f : Int32 → Int32 → Int32) (a b : Int) : Int := (f (Int32.ofInt a) (Int32.ofInt b)).toInt
def pz_lc (x y : Int64) : Int := if y < x then 1 else if x = y then 0 else -1
-- one step that is neither a call nor a return; own: the class whose pool is meant; nL: how many locals; ini: within a constructor
def pz_step (own nL : Nat) (ini : Bool) (i : Instr) (n pc : Nat) (st : List pz_V) (L : List (Nat × pz_V)) (h : pz_H) : pz_S := match i with
  | .iconst v => (pc + n, .inl v :: st, L, h, pz_in v)
  | .bipush v => (pc + n, .inl v :: st, L, h, (decide (-128 ≤ v) && decide (v ≤ 127)))
  | .sipush v => (pc + n, .inl v :: st, L, h, (decide (-32768 ≤ v) && decide (v ≤ 32767)))
  | .lconst v => (pc + n, .inr (.inl (Int64.ofNat v.val)) :: st, L, h, true)
  | .aconst_null => (pc + n, .inr (.inr none) :: st, L, h, true)
  | .ldc2_w x => match pz_k2 own x with
    | some v => (pc + n, .inr (.inl v.1) :: st, L, h, true)
    | none => (pc, st, L, h, false)
  | .iload k => pz_ld 0 k n pc st L h
  | .iload_n k => pz_ld 0 k.val n pc st L h
  | .lload k => pz_ld 2 k n pc st L h
  | .lload_n k => pz_ld 2 k.val n pc st L h
  | .aload k => pz_ld 3 k n pc st L h
  | .aload_n k => pz_ld 3 k.val n pc st L h
  | .istore k => pz_sto 0 nL k n pc st L h
  | .istore_n k => pz_sto 0 nL k.val n pc st L h
  | .astore k => pz_sto 3 nL k n pc st L h
  | .astore_n k => pz_sto 3 nL k.val n pc st L h
  | .lstore k => pz_stl nL k n pc st L h
  | .lstore_n k => pz_stl nL k.val n pc st L h
  | .iinc k v => match pz_look L k with
    | some (.inl a) => (pc + n, st, pz_st1 L k (.inl (a + v)), h, (pz_in (a + v) && decide (k < nL)))
    | _ => (pc, st, L, h, false)
  | .iadd => pz_b2 (fun a b => a + b) (fun a b => pz_in (a + b)) n pc st L h
  | .isub => pz_b2 (fun a b => a - b) (fun a b => pz_in (a - b)) n pc st L h
  | .imul => pz_b2 (fun a b => a * b) (fun a b => pz_in (a * b)) n pc st L h
  | .idiv => pz_b2 (fun a b => a / b) (fun a b => decide (0 ≤ a) && decide (0 < b)) n pc st L h
  | .irem => pz_b2 (fun a b => a % b) (fun a b => decide (0 ≤ a) && decide (0 < b)) n pc st L h
  | .iand => pz_b2 (pz_i32 (fun x y => x &&& y)) (fun _ _ => true) n pc st L h
  | .ior => pz_b2 (pz_i32 (fun x y => x ||| y)) (fun _ _ => true) n pc st L h
  | .ixor => pz_b2 (pz_i32 (fun x y => x ^^^ y)) (fun _ _ => true) n pc st L h
  | .ishl => pz_b2 (pz_i32 (fun x y => x <<< (y &&& 31))) (fun _ _ => true) n pc st L h
  | .ishr => pz_b2 (pz_i32 (fun x y => x >>> (y &&& 31))) (fun _ _ => true) n pc st L h
  | .ladd => pz_l2 (fun x y => x + y) n pc st L h
  | .lsub => pz_l2 (fun x y => x - y) n pc st L h
  | .land => pz_l2 (fun x y => x &&& y) n pc st L h
  | .lor => pz_l2 (fun x y => x ||| y) n pc st L h
  | .lxor => pz_l2 (fun x y => x ^^^ y) n pc st L h
  | .lshl => pz_ls (fun x y => x <<< (y.toInt64 &&& 63)) n pc st L h
  | .lshr => pz_ls (fun x y => x >>> (y.toInt64 &&& 63)) n pc st L h
  | .lushr => pz_ls (fun x y => (x.toUInt64 >>> (y.toInt64.toUInt64 &&& Int64.toUInt64 63)).toInt64) n pc st L h
  | .i2l => match st with
    | .inl a :: r => (pc + n, .inr (.inl (Int32.ofInt a).toInt64) :: r, L, h, true)
    | _ => (pc, st, L, h, false)
  | .l2i => match st with
    | .inr (.inl x) :: r => (pc + n, .inl x.toInt32.toInt :: r, L, h, true)
    | _ => (pc, st, L, h, false)
  | .lcmp => match st with
    | .inr (.inl y) :: .inr (.inl x) :: r => (pc + n, .inl (pz_lc x y) :: r, L, h, true)
    | _ => (pc, st, L, h, false)
  | .dup => match st with
    | v :: r => (pc + n, v :: v :: r, L, h, decide (pz_cat v = 1))
    | _ => (pc, st, L, h, false)
  | .dup_x1 => match st with
    | v :: w :: r => (pc + n, v :: w :: v :: r, L, h, (decide (pz_cat v = 1) && decide (pz_cat w = 1)))
    | _ => (pc, st, L, h, false)
  | .dup_x2 => match st with
    | v :: w :: x :: r => (pc + n, v :: w :: x :: v :: r, L, h, (decide (pz_cat v = 1) && (decide (pz_cat w = 1) && decide (pz_cat x = 1))))
    | _ => (pc, st, L, h, false)
  | .dup2 => match st with
    | v :: w :: r => (pc + n, v :: w :: v :: w :: r, L, h, (decide (pz_cat v = 1) && decide (pz_cat w = 1)))
    | _ => (pc, st, L, h, false)
  | .pop => match st with
    | v :: r => (pc + n, r, L, h, decide (pz_cat v = 1))
    | _ => (pc, st, L, h, false)
  | .goto off => pz_br true off n pc st L h
  | .ifCond c off => match st with
    | .inl a :: r => pz_br (pz_cp c a 0) off n pc r L h
    | _ => (pc, st, L, h, false)
  | .if_icmp c off => match st with
    | .inl b :: .inl a :: r => pz_br (pz_cp c a b) off n pc r L h
    | _ => (pc, st, L, h, false)
  | .ifnull off => match st with
    | .inr (.inr x) :: r => pz_br x.isNone off n pc r L h
    | _ => (pc, st, L, h, false)
  | .ifnonnull off => match st with
    | .inr (.inr x) :: r => pz_br x.isSome off n pc r L h
    | _ => (pc, st, L, h, false)
  | .tableswitch dflt lo hi offs => match st with
    | .inl a :: r => pz_br true (if a < lo ∨ hi < a then dflt else (offs[(a - lo).toNat]?).getD (-1 - (pc : Int))) n pc r L h
    | _ => (pc, st, L, h, false)
  | .getfield x => match pz_fd own x with
    | some ck => match st with
      | .inr (.inr r) :: rest => (pc + n, pz_gf h (r.getD 0) ck.2.1 (pz_ty ck.1 ck.2.1) :: rest, L, h, (r.isSome && pz_is h (r.getD 0) ck.1 (pz_nf ck.1)))
      | _ => (pc, st, L, h, false)
    | none => (pc, st, L, h, false)
  | .putfield x => match pz_fd own x with
    | some ck => match st with
      | v :: .inr (.inr r) :: rest => (pc + n, rest, L, pz_pf h (r.getD 0) ck.2.1 v, (r.isSome && (pz_is h (r.getD 0) ck.1 (pz_nf ck.1) && (pz_fit (pz_ty ck.1 ck.2.1) v && (!pz_fin ck.1 ck.2.1 || (ini && decide (ck.1 = own)))))))
      | _ => (pc, st, L, h, false)
    | none => (pc, st, L, h, false)
  | .new x => match pz_cl own x with
    | some c => (pc + n, .inr (.inr (some h.1.length)) :: st, L, pz_nw h c.1 (pz_nf c.1), true)
    | none => (pc, st, L, h, false)
  | .newarray t => match st with
    | .inl a :: r => (pc + n, .inr (.inr (some h.1.length)) :: r, L, pz_nw h (if t = .int then 100 else 101) a.toNat, ((decide (t = .int) || decide (t = .long)) && (decide (0 ≤ a) && decide (a ≤ 1000000))))
    | _ => (pc, st, L, h, false)
  | .anewarray x => match pz_cl own x with
    | some c => match st with
      | .inl a :: r => (pc + n, .inr (.inr (some h.1.length)) :: r, L, pz_nw h 102 a.toNat, (decide (c.1 = pz_nodeC) && (decide (0 ≤ a) && decide (a ≤ 1000000))))
      | _ => (pc, st, L, h, false)
    | none => (pc, st, L, h, false)
  | .arraylength => match st with
    | .inr (.inr r) :: rest => (pc + n, .inl ((pz_ln h (r.getD 0)).2 : Int) :: rest, L, h, (r.isSome && (decide (100 ≤ (pz_ln h (r.getD 0)).1) && (decide ((pz_ln h (r.getD 0)).1 ≤ 103) && decide ((pz_ln h (r.getD 0)).2 ≤ 1000000)))))
    | _ => (pc, st, L, h, false)
  | .iaload => match st with
    | .inl i :: .inr (.inr r) :: rest => (pc + n, .inl (h.2.1 (r.getD 0) i.toNat) :: rest, L, h, (r.isSome && pz_ixs h (r.getD 0) i))
    | _ => (pc, st, L, h, false)
  | .laload => match st with
    | .inl i :: .inr (.inr r) :: rest => (pc + n, .inr (.inl (h.2.2.1 (r.getD 0) i.toNat)) :: rest, L, h, (r.isSome && pz_ix h (r.getD 0) 101 i))
    | _ => (pc, st, L, h, false)
  | .aaload => match st with
    | .inl i :: .inr (.inr r) :: rest => (pc + n, .inr (.inr (h.2.2.2.1 (r.getD 0) i.toNat)) :: rest, L, h, (r.isSome && pz_ix h (r.getD 0) 102 i))
    | _ => (pc, st, L, h, false)
  | .iastore => match st with
    | .inl v :: .inl i :: .inr (.inr r) :: rest => (pc + n, rest, L, pz_sI h (r.getD 0) i.toNat v, (r.isSome && pz_ix h (r.getD 0) 100 i))
    | _ => (pc, st, L, h, false)
  | .lastore => match st with
    | .inr (.inl v) :: .inl i :: .inr (.inr r) :: rest => (pc + n, rest, L, pz_sL h (r.getD 0) i.toNat v, (r.isSome && pz_ix h (r.getD 0) 101 i))
    | _ => (pc, st, L, h, false)
  | .aastore => match st with
    | .inr (.inr v) :: .inl i :: .inr (.inr r) :: rest => (pc + n, rest, L, pz_sR h (r.getD 0) i.toNat v, (r.isSome && (pz_ix h (r.getD 0) 102 i && (v.isNone || pz_is h (v.getD 0) pz_nodeC (pz_nf pz_nodeC)))))
    | _ => (pc, st, L, h, false)
  | _ => (pc, st, L, h, false)
-- the step's own condition beside those before
def pz_and (b : Bool) (t : pz_S) : pz_S := (t.1, t.2.1, t.2.2.1, t.2.2.2.1, b && t.2.2.2.2)
def pz_inv (i : Instr) : Option (Nat × Nat) := match i with
  | .invokevirtual x => some (0, x)
  | .invokespecial x => some (1, x)
  | .invokestatic x => some (2, x)
  | _ => none
def pz_rtn (i : Instr) : Option Nat := match i with
  | .ireturn => some 0
  | .lreturn => some 2
  | .areturn => some 3
  | .return_ => some 4
  | _ => none
-- a return of kind t out of a method whose type is rt
def pz_re (rt t : Nat) (st : List pz_V) : Option (Option pz_V × Bool) := match st with
  | [] => some (none, decide (t = 4) && decide (rt = 4))
  | [v] => some (some v, decide (pz_tag v = t) && pz_fit rt v)
  | _ => none
-- what a call asks: the right kind of call, enough on the stack, a receiver of the class, little below, room for the arguments
def pz_cok (kd y : Nat) (st : List pz_V) (h : pz_H) : Bool :=
  decide (kd = pz_mkd y) && (decide (pz_mna y ≤ st.length) && (decide (((st.drop (pz_mna y)).map pz_cat).sum ≤ 8) && (decide (((st.take (pz_mna y)).map pz_cat).sum ≤ pz_mL y) &&
    (decide (kd = 2) || match (st.take (pz_mna y)).reverse with
      | .inr (.inr r) :: _ => r.isSome && pz_is h (r.getD 0) (pz_mow y) (pz_nf (pz_mow y))
      | _ => false))))
-- the three methods that throw, by their number: 0 goes on, else it throws; they make one cell of six slots
def pz_prim (y : Nat) (as : List pz_V) (h : pz_H) : Option (pz_O × pz_H) := match pz_thr y with
  | some q => match as with
    | [.inl a] => bif Bool.xor q.1 (decide (a = 0)) then some (.inl none, h) else some (.inr q.2, h.1, h.2.1, h.2.2.1, h.2.2.2.1, h.2.2.2.2.1 + 1, h.2.2.2.2.2 + 6)
    | _ => none
  | none => none
-- what a callee does: one of the three, or a method by its code
def pz_sub (f : Nat → Nat → pz_S → Option (pz_O × pz_H × Bool)) (d kd y : Nat) (s : pz_S) : Option (pz_O × pz_H × Bool) := match pz_thr y with
  | some _ => (pz_prim y (s.2.1.take (pz_mna y)).reverse s.2.2.2.1).map (fun oh => (oh.1, oh.2, s.2.2.2.2 && pz_cok kd y s.2.1 s.2.2.2.1))
  | none => f d y (0, [], pz_args 0 (s.2.1.take (pz_mna y)).reverse, s.2.2.2.1, s.2.2.2.2 && pz_cok kd y s.2.1 s.2.2.2.1)
-- .. and how its caller goes on
def pz_aft (f : Nat → Nat → pz_S → Option (pz_O × pz_H × Bool)) (d m y : Nat) (s : pz_S) (r : pz_O × pz_H × Bool) : Option (pz_O × pz_H × Bool) := match r.1 with
  | .inl v => f d m (s.1 + 3, v.toList ++ s.2.1.drop (pz_mna y), s.2.2.1, r.2.1, r.2.2)
  | .inr k => match pz_ct m s.1 k with
    | some c => some (.inl (some (.inl c)), r.2.1, r.2.2 && (decide (pz_mkd y ≠ 1) && decide (pz_a y 10 = 0)))
    | none => some (.inr k, r.2.1, r.2.2 && (decide (pz_mkd y ≠ 1) && decide (pz_a y 10 = 0)))
def pz_call (f : Nat → Nat → pz_S → Option (pz_O × pz_H × Bool)) (d m kd y : Nat) (s : pz_S) : Option (pz_O × pz_H × Bool) := match y with
  | 0 => match s.2.1 with
    | .inr (.inr r) :: rest => f d m (s.1 + 3, rest, s.2.2.1, s.2.2.2.1, s.2.2.2.2 && (decide (kd = 1) && (r.isSome && decide ((rest.map pz_cat).sum ≤ 8))))
    | _ => none
  | y + 1 => match d with
    | 0 => none
    | d + 1 => (pz_sub f d kd (y + 1) s).bind (pz_aft f (d + 1) m (y + 1) s)
def pz_body (f : Nat → Nat → pz_S → Option (pz_O × pz_H × Bool)) (d m : Nat) (s : pz_S) : Option (pz_O × pz_H × Bool) := match pz_cd m s.1 with
  | none => none
  | some il => match pz_rtn il.1 with
    | some t => (pz_re (pz_mrt m) t s.2.1).map (fun vb => (.inl vb.1, s.2.2.2.1, s.2.2.2.2 && vb.2))
    | none => match pz_inv il.1 with
      | none => f d m (pz_and s.2.2.2.2 (pz_step (pz_mow m) (pz_mL m) (pz_min m) il.1 il.2 s.1 s.2.1 s.2.2.1 s.2.2.2.1))
      | some kx => match pz_mt (pz_mow m) kx.2 with
        | none => none
        | some y => pz_call f d m kx.1 y.1 s
/-- n steps of fuel, calls at most d deep, method m, frame s: how it ends, the heap, whether all conditions held -/
def pz_ev (n : Nat) : Nat → Nat → pz_S → Option (pz_O × pz_H × Bool) := match n with
  | 0 => fun _ _ _ => none
  | n + 1 => pz_body (pz_ev n)
/-- the frame s of method m comes to an end with Q -/
def pz_Rn (d m : Nat) (s : pz_S) (Q : pz_O → pz_H → Prop) : Prop := ∃ (n : Nat) (o : pz_O) (h : pz_H), pz_ev n d m s = some (o, h, true) ∧ Q o h
-- steps that are neither calls nor returns
def pz_go (m : Nat) (k : Nat) (s : pz_S) : Option pz_S := match k with
  | 0 => some s
  | k + 1 => match pz_cd m s.1 with
    | none => none
    | some il => match pz_rtn il.1 with
      | some _ => none
      | none => match pz_inv il.1 with
        | some _ => none
        | none => pz_go m k (pz_and s.2.2.2.2 (pz_step (pz_mow m) (pz_mL m) (pz_min m) il.1 il.2 s.1 s.2.1 s.2.2.1 s.2.2.2.1))
