/-! ===== one instruction over the memory: what must hold for it to go on, and where it goes on ===== -/
def inR (x : Int) : Prop := -2147483648 ≤ x ∧ x < 2147483648
def inL (x : Int) : Prop := -9223372036854775808 ≤ x ∧ x < 9223372036854775808
def fLs {α : Type} (l : List α) (k : List α → Prop) : Prop := match l with
  | [] => k []
  | a :: r => fLs r (fun r2 => k (a :: r2))
def lkN {α : Type _} (l : List (Nat × α)) (n : Nat) : Option α := match l with
  | [] => none
  | (a, b) :: r => cond (Nat.beq n a) (some b) (lkN r n)
def isLng (a : Option AV) : Bool := match a with
  | some (.inr (.inl _)) => true
  | _ => false
def sv1 (l : Lc) (k : Nat) (v : AV) : Lc := match l, k with
  | [], _ => []
  | _ :: r, 0 => some v :: r
  | some (.inr (.inl _)) :: r, 1 => none :: sv1 r 0 v
  | a :: r, 1 => a :: sv1 r 0 v
  | a :: r, k + 2 => a :: sv1 r (k + 1) v
def sv2 (l : Lc) (k : Nat) (v : AV) : Lc := match l, k with
  | [], _ => []
  | [_], 0 => [some v]
  | _ :: _ :: r, 0 => some v :: none :: r
  | some (.inr (.inl _)) :: r, 1 => none :: sv2 r 0 v
  | a :: r, 1 => a :: sv2 r 0 v
  | a :: r, k + 2 => a :: sv2 r (k + 1) v
def bAnd (x y : Int) : Int := (Int32.ofInt x &&& Int32.ofInt y).toInt
def bOr (x y : Int) : Int := (Int32.ofInt x ||| Int32.ofInt y).toInt
def bXor (x y : Int) : Int := (Int32.ofInt x ^^^ Int32.ofInt y).toInt
def lc3 (x y : Int) : Int := if y < x then 1 else if x = y then 0 else -1
abbrev Tt : Type := Nat → Option (Instr × Nat × List Nat)
/-- a contract: the type of its ghost, how many arguments, what must hold, what holds behind it (no answer, or an int) -/
abbrev Call : Type 1 := (G : Type) × (Nat × (G → List AV → Mem → Prop) × ((G → List AV → Mem → Mem → Prop) ⊕ (G → List AV → Mem → Int → Mem → Prop)))
/-- fields (pool number: kind of object, slot, what: 0 an int, 1 a boolean, 2 a reference to the next cell, 4 a reference, 3 an int that is only read; the cell referred to), ints, longs, calls (receiver's kind; none: static) -/
abbrev Pool : Type 1 := List (Nat × Nat × Nat × Nat × Nat) × List (Nat × Int) × List (Nat × Int) × List (Nat × Option Nat × Call)
abbrev Rets : Type := Nat × (Mem → Prop) × (Int → Mem → Prop)
def s_load (K : Kt) (nx k : Nat) (lc : Lc) (st : List AV) (M : Mem) : Prop := match lc[k]? with
  | some (some v) => K nx lc (v :: st) M
  | _ => False
def s_iload (K : Kt) (nx k : Nat) (lc : Lc) (st : List AV) (M : Mem) : Prop := match lc[k]? with
  | some (some (.inl x)) => K nx lc (.inl x :: st) M
  | _ => False
def s_lload (K : Kt) (nx k : Nat) (lc : Lc) (st : List AV) (M : Mem) : Prop := match lc[k]? with
  | some (some (.inr (.inl x))) => K nx lc (.inr (.inl x) :: st) M
  | _ => False
def s_aload (K : Kt) (nx k : Nat) (lc : Lc) (st : List AV) (M : Mem) : Prop := match lc[k]? with
  | some (some (.inr (.inr x))) => K nx lc (.inr (.inr x) :: st) M
  | _ => False
def s_istore (K : Kt) (nx k : Nat) (lc : Lc) (st : List AV) (M : Mem) : Prop := match st with
  | .inl x :: r => fLs (sv1 lc k (.inl x)) (fun l2 => K nx l2 r M)
  | _ => False
def s_astore (K : Kt) (nx k : Nat) (lc : Lc) (st : List AV) (M : Mem) : Prop := match st with
  | .inr (.inr x) :: r => fLs (sv1 lc k (.inr (.inr x))) (fun l2 => K nx l2 r M)
  | _ => False
def s_lstore (K : Kt) (nx k : Nat) (lc : Lc) (st : List AV) (M : Mem) : Prop := match st with
  | .inr (.inl x) :: r => fLs (sv2 lc k (.inr (.inl x))) (fun l2 => K nx l2 r M)
  | _ => False
def s_iinc (K : Kt) (nx k : Nat) (n : Int) (lc : Lc) (st : List AV) (M : Mem) : Prop := match lc[k]? with
  | some (some (.inl x)) => fLs (sv1 lc k (.inl (x + n))) (fun l2 => K nx l2 st M)
  | _ => False
def s_iadd (K : Kt) (nx : Nat) (lc : Lc) (st : List AV) (M : Mem) : Prop := match st with
  | .inl y :: .inl x :: r => K nx lc (.inl (x + y) :: r) M
  | _ => False
def s_isub (K : Kt) (nx : Nat) (lc : Lc) (st : List AV) (M : Mem) : Prop := match st with
  | .inl y :: .inl x :: r => K nx lc (.inl (x - y) :: r) M
  | _ => False
def s_imul (K : Kt) (nx : Nat) (lc : Lc) (st : List AV) (M : Mem) : Prop := match st with
  | .inl y :: .inl x :: r => K nx lc (.inl (x * y) :: r) M
  | _ => False
def s_iand (K : Kt) (nx : Nat) (lc : Lc) (st : List AV) (M : Mem) : Prop := match st with
  | .inl y :: .inl x :: r => K nx lc (.inl (bAnd x y) :: r) M
  | _ => False
def s_ior (K : Kt) (nx : Nat) (lc : Lc) (st : List AV) (M : Mem) : Prop := match st with
  | .inl y :: .inl x :: r => K nx lc (.inl (bOr x y) :: r) M
  | _ => False
def s_ixor (K : Kt) (nx : Nat) (lc : Lc) (st : List AV) (M : Mem) : Prop := match st with
  | .inl y :: .inl x :: r => K nx lc (.inl (bXor x y) :: r) M
  | _ => False
def s_idiv (K : Kt) (nx : Nat) (lc : Lc) (st : List AV) (M : Mem) : Prop := match st with
  | .inl y :: .inl x :: r => And (0 ≤ x ∧ 0 < y ∧ inR x ∧ inR y) (K nx lc (.inl (x / y) :: r) M)
  | _ => False
def s_irem (K : Kt) (nx : Nat) (lc : Lc) (st : List AV) (M : Mem) : Prop := match st with
  | .inl y :: .inl x :: r => And (0 ≤ x ∧ 0 < y ∧ inR x ∧ inR y) (K nx lc (.inl (x % y) :: r) M)
  | _ => False
def s_ishl (K : Kt) (nx : Nat) (lc : Lc) (st : List AV) (M : Mem) : Prop := match st with
  | .inl y :: .inl x :: r => And (0 ≤ y ∧ y < 32) (K nx lc (.inl (x * 2 ^ y.toNat) :: r) M)
  | _ => False
def s_ishr (K : Kt) (nx : Nat) (lc : Lc) (st : List AV) (M : Mem) : Prop := match st with
  | .inl y :: .inl x :: r => And (inR x ∧ 0 ≤ y ∧ y < 32) (K nx lc (.inl (x / 2 ^ y.toNat) :: r) M)
  | _ => False
def s_iushr (K : Kt) (nx : Nat) (lc : Lc) (st : List AV) (M : Mem) : Prop := match st with
  | .inl y :: .inl x :: r => And (inR x ∧ 0 ≤ x ∧ 0 ≤ y ∧ y < 32) (K nx lc (.inl (x / 2 ^ y.toNat) :: r) M)
  | _ => False
def s_ladd (K : Kt) (nx : Nat) (lc : Lc) (st : List AV) (M : Mem) : Prop := match st with
  | .inr (.inl y) :: .inr (.inl x) :: r => K nx lc (.inr (.inl (x + y)) :: r) M
  | _ => False
def s_lsub (K : Kt) (nx : Nat) (lc : Lc) (st : List AV) (M : Mem) : Prop := match st with
  | .inr (.inl y) :: .inr (.inl x) :: r => K nx lc (.inr (.inl (x - y)) :: r) M
  | _ => False
def s_lmul (K : Kt) (nx : Nat) (lc : Lc) (st : List AV) (M : Mem) : Prop := match st with
  | .inr (.inl y) :: .inr (.inl x) :: r => K nx lc (.inr (.inl (x * y)) :: r) M
  | _ => False
def s_ldiv (K : Kt) (nx : Nat) (lc : Lc) (st : List AV) (M : Mem) : Prop := match st with
  | .inr (.inl y) :: .inr (.inl x) :: r => And (0 ≤ x ∧ 0 < y ∧ inL x ∧ inL y) (K nx lc (.inr (.inl (x / y)) :: r) M)
  | _ => False
def s_lrem (K : Kt) (nx : Nat) (lc : Lc) (st : List AV) (M : Mem) : Prop := match st with
  | .inr (.inl y) :: .inr (.inl x) :: r => And (0 ≤ x ∧ 0 < y ∧ inL x ∧ inL y) (K nx lc (.inr (.inl (x % y)) :: r) M)
  | _ => False
def s_lcmp (K : Kt) (nx : Nat) (lc : Lc) (st : List AV) (M : Mem) : Prop := match st with
  | .inr (.inl y) :: .inr (.inl x) :: r => And (inL x ∧ inL y) (K nx lc (.inl (lc3 x y) :: r) M)
  | _ => False
def s_lshr (K : Kt) (nx : Nat) (lc : Lc) (st : List AV) (M : Mem) : Prop := match st with
  | .inl y :: .inr (.inl x) :: r => And (inL x ∧ 0 ≤ y ∧ y < 64) (K nx lc (.inr (.inl (x / 2 ^ y.toNat)) :: r) M)
  | _ => False
def s_ineg (K : Kt) (nx : Nat) (lc : Lc) (st : List AV) (M : Mem) : Prop := match st with
  | .inl x :: r => K nx lc (.inl (-x) :: r) M
  | _ => False
def s_lneg (K : Kt) (nx : Nat) (lc : Lc) (st : List AV) (M : Mem) : Prop := match st with
  | .inr (.inl x) :: r => K nx lc (.inr (.inl (-x)) :: r) M
  | _ => False
def s_i2l (K : Kt) (nx : Nat) (lc : Lc) (st : List AV) (M : Mem) : Prop := match st with
  | .inl x :: r => And (inR x) (K nx lc (.inr (.inl x) :: r) M)
  | _ => False
def s_l2i (K : Kt) (nx : Nat) (lc : Lc) (st : List AV) (M : Mem) : Prop := match st with
  | .inr (.inl x) :: r => K nx lc (.inl x :: r) M
  | _ => False
def s_dup (K : Kt) (nx : Nat) (lc : Lc) (st : List AV) (M : Mem) : Prop := match st with
  | .inl x :: r => K nx lc (.inl x :: .inl x :: r) M
  | .inr (.inr x) :: r => K nx lc (.inr (.inr x) :: .inr (.inr x) :: r) M
  | _ => False
def s_pop (K : Kt) (nx : Nat) (lc : Lc) (st : List AV) (M : Mem) : Prop := match st with
  | .inl _ :: r => K nx lc r M
  | .inr (.inr _) :: r => K nx lc r M
  | _ => False
def s_dup2 (K : Kt) (nx : Nat) (lc : Lc) (st : List AV) (M : Mem) : Prop := match st with
  | .inl y :: .inr (.inr x) :: r => K nx lc (.inl y :: .inr (.inr x) :: .inl y :: .inr (.inr x) :: r) M
  | _ => False
/-- a comparison of x and y: to the target, or on -/
def s_br (c : ClassFile.Cond) (x y : Int) (A B : Prop) : Prop := match c with
  | .eq => And (inR x ∧ inR y) (And (x = y → A) (x ≠ y → B))
  | .ne => And (inR x ∧ inR y) (And (x ≠ y → A) (x = y → B))
  | .lt => And (inR x ∧ inR y) (And (x < y → A) (y ≤ x → B))
  | .ge => And (inR x ∧ inR y) (And (y ≤ x → A) (x < y → B))
  | .gt => And (inR x ∧ inR y) (And (y < x → A) (x ≤ y → B))
  | .le => And (inR x ∧ inR y) (And (x ≤ y → A) (y < x → B))
def s_if (c : ClassFile.Cond) (K : Kt) (nx : Nat) (tg : List Nat) (lc : Lc) (st : List AV) (M : Mem) : Prop := match st, tg with
  | .inl x :: r, [t] => s_br c x 0 (K t lc r M) (K nx lc r M)
  | _, _ => False
def s_icmp (c : ClassFile.Cond) (K : Kt) (nx : Nat) (tg : List Nat) (lc : Lc) (st : List AV) (M : Mem) : Prop := match st, tg with
  | .inl y :: .inl x :: r, [t] => s_br c x y (K t lc r M) (K nx lc r M)
  | _, _ => False
def s_goto (K : Kt) (tg : List Nat) (lc : Lc) (st : List AV) (M : Mem) : Prop := match tg with
  | [t] => K t lc st M
  | _ => False
/-- a switch: lo, lo + 1 .. go to the targets, all else to the default -/
def s_sws (K : Nat → Prop) (x : Int) (lo : Int) (ts : List Nat) : Prop := match ts with
  | [] => True
  | t :: r => And (x = lo → K t) (s_sws K x (lo + 1) r)
def s_sw (lo hi : Int) (K : Kt) (tg : List Nat) (lc : Lc) (st : List AV) (M : Mem) : Prop := match st, tg with
  | .inl x :: r, d :: ts => And (inR x) (And ((x < lo ∨ hi < x) → K d lc r M) (s_sws (fun t => K t lc r M) x lo ts))
  | _, _ => False
def s_getf (P : Pool) (ix : Nat) (K : Kt) (nx : Nat) (lc : Lc) (st : List AV) (M : Mem) : Prop := match lkN P.1 ix, st with
  | some (c, _, 4, t), .inr (.inr o) :: r => And (kdF o = c) (K nx lc (.inr (.inr t) :: r) M)
  | some (c, _, 2, _), .inr (.inr o) :: r => And (kdF o = c) (K nx lc (.inr (.inr (o + 1)) :: r) M)
  | some (c, k, _, _), .inr (.inr o) :: r => And (kdF o = c) (K nx lc (.inl (M o k) :: r) M)
  | _, _ => False
def s_putf (P : Pool) (ix : Nat) (K : Kt) (nx : Nat) (lc : Lc) (st : List AV) (M : Mem) : Prop := match lkN P.1 ix, st with
  | some (c, k, 0, _), .inl x :: .inr (.inr o) :: r => And (kdF o = c) (K nx lc r (up2 M o k x))
  | some (c, k, 1, _), .inl x :: .inr (.inr o) :: r => And (kdF o = c ∧ (x = 0 ∨ x = 1)) (K nx lc r (up2 M o k x))
  | _, _ => False
def s_ald (kd : Nat) (n : Nn) (K : Kt) (nx : Nat) (lc : Lc) (st : List AV) (M : Mem) : Prop := match st with
  | .inl i :: .inr (.inr a) :: r => And (kdF a = kd ∧ 0 ≤ i ∧ i < (lnF n a : Int)) (K nx lc (.inl (M a i.toNat) :: r) M)
  | _ => False
def s_iast (n : Nn) (K : Kt) (nx : Nat) (lc : Lc) (st : List AV) (M : Mem) : Prop := match st with
  | .inl x :: .inl i :: .inr (.inr a) :: r => And (kdF a = 100 ∧ 0 ≤ i ∧ i < (lnF n a : Int)) (K nx lc r (up2 M a i.toNat x))
  | _ => False
def s_bast (n : Nn) (K : Kt) (nx : Nat) (lc : Lc) (st : List AV) (M : Mem) : Prop := match st with
  | .inl x :: .inl i :: .inr (.inr a) :: r => And (kdF a = 101 ∧ 0 ≤ i ∧ i < (lnF n a : Int) ∧ (x = 0 ∨ x = 1)) (K nx lc r (up2 M a i.toNat x))
  | _ => False
def s_alen (n : Nn) (K : Kt) (nx : Nat) (lc : Lc) (st : List AV) (M : Mem) : Prop := match st with
  | .inr (.inr a) :: r => And (kdF a = 100) (K nx lc (.inl (lnF n a : Int) :: r) M)
  | _ => False
def splA (n : Nat) (acc st : List AV) (k : List AV → List AV → Prop) : Prop := match n, st with
  | 0, st => k acc st
  | m + 1, v :: r => splA m (v :: acc) r k
  | _ + 1, [] => False
def catA (l : List AV) : Nat := match l with
  | [] => 0
  | .inr (.inl _) :: r => catA r + 2
  | _ :: r => catA r + 1
def s_go (c : Call) (vs rest : List AV) (K : Kt) (nx : Nat) (lc : Lc) (M : Mem) : Prop := match c.2.2.2 with
  | .inl pv => ∃ g : c.1, And (c.2.2.1 g vs M) (∀ M' : Mem, pv g vs M M' → K nx lc rest M')
  | .inr pi => ∃ g : c.1, And (c.2.2.1 g vs M) (∀ (x : Int) (M' : Mem), pi g vs M x M' → K nx lc (.inl x :: rest) M')
def s_rcv (c : Nat) (vs : List AV) (A : Prop) : Prop := match vs with
  | .inr (.inr o) :: _ => And (kdF o = c) A
  | _ => False
def noLng (l : List AV) : Bool := match l with
  | [] => true
  | .inr (.inl _) :: _ => false
  | _ :: r => noLng r
def okA (vs rest : List AV) : Bool := cond (Nat.ble (catA rest) 8) (noLng vs) false
def s_inv (P : Pool) (st? : Bool) (ix : Nat) (K : Kt) (nx : Nat) (lc : Lc) (st : List AV) (M : Mem) : Prop := match lkN P.2.2.2 ix, st? with
  | some (none, c), true => splA c.2.1 [] st (fun vs rest => cond (okA vs rest) (s_go c vs rest K nx lc M) False)
  | some (some kd, c), false => splA c.2.1 [] st (fun vs rest => cond (okA vs rest) (s_rcv kd vs (s_go c vs rest K nx lc M)) False)
  | _, _ => False
def s_iret (R : Rets) (st : List AV) (M : Mem) : Prop := match R.1, st with
  | 1, [.inl x] => Or (R.2.2 x M) False
  | 2, [.inl x] => And (x = 0 ∨ x = 1) (Or (R.2.2 x M) False)
  | _, _ => False
def s_ret (R : Rets) (st : List AV) (M : Mem) : Prop := match R.1, st with
  | 0, [] => Or (R.2.1 M) False
  | _, _ => False
def s_ldi (l : List (Nat × Int)) (ix : Nat) (K : Kt) (nx : Nat) (lc : Lc) (st : List AV) (M : Mem) : Prop := match lkN l ix with
  | some v => K nx lc (.inl v :: st) M
  | none => False
def s_ldl (l : List (Nat × Int)) (ix : Nat) (K : Kt) (nx : Nat) (lc : Lc) (st : List AV) (M : Mem) : Prop := match lkN l ix with
  | some v => K nx lc (.inr (.inl v) :: st) M
  | none => False
def s_ins (P : Pool) (R : Rets) (n : Nn) (K : Kt) (i : Instr) (nx : Nat) (tg : List Nat) (lc : Lc) (st : List AV) (M : Mem) : Prop := match i with
  | .iconst v => K nx lc (.inl v :: st) M
  | .bipush v => K nx lc (.inl v :: st) M
  | .sipush v => K nx lc (.inl v :: st) M
  | .ldc ix => s_ldi P.2.1 ix K nx lc st M
  | .ldc_w ix => s_ldi P.2.1 ix K nx lc st M
  | .ldc2_w ix => s_ldl P.2.2.1 ix K nx lc st M
  | .lconst v => K nx lc (.inr (.inl (v.val : Int)) :: st) M
  | .iload k => s_iload K nx k lc st M
  | .iload_n k => s_iload K nx k.val lc st M
  | .lload k => s_lload K nx k lc st M
  | .lload_n k => s_lload K nx k.val lc st M
  | .aload k => s_aload K nx k lc st M
  | .aload_n k => s_aload K nx k.val lc st M
  | .istore k => s_istore K nx k lc st M
  | .istore_n k => s_istore K nx k.val lc st M
  | .lstore k => s_lstore K nx k lc st M
  | .lstore_n k => s_lstore K nx k.val lc st M
  | .astore k => s_astore K nx k lc st M
  | .astore_n k => s_astore K nx k.val lc st M
  | .iinc k v => s_iinc K nx k v lc st M
  | .iadd => s_iadd K nx lc st M
  | .isub => s_isub K nx lc st M
  | .imul => s_imul K nx lc st M
  | .iand => s_iand K nx lc st M
  | .ior => s_ior K nx lc st M
  | .ixor => s_ixor K nx lc st M
  | .idiv => s_idiv K nx lc st M
  | .irem => s_irem K nx lc st M
  | .ishl => s_ishl K nx lc st M
  | .ishr => s_ishr K nx lc st M
  | .iushr => s_iushr K nx lc st M
  | .ineg => s_ineg K nx lc st M
  | .ladd => s_ladd K nx lc st M
  | .lsub => s_lsub K nx lc st M
  | .lmul => s_lmul K nx lc st M
  | .ldiv => s_ldiv K nx lc st M
  | .lrem => s_lrem K nx lc st M
  | .lneg => s_lneg K nx lc st M
  | .lshr => s_lshr K nx lc st M
  | .lcmp => s_lcmp K nx lc st M
  | .i2l => s_i2l K nx lc st M
  | .l2i => s_l2i K nx lc st M
  | .dup => s_dup K nx lc st M
  | .dup2 => s_dup2 K nx lc st M
  | .pop => s_pop K nx lc st M
  | .ifCond c _ => s_if c K nx tg lc st M
  | .if_icmp c _ => s_icmp c K nx tg lc st M
  | .goto _ => s_goto K tg lc st M
  | .tableswitch _ lo hi _ => s_sw lo hi K tg lc st M
  | .getfield ix => s_getf P ix K nx lc st M
  | .putfield ix => s_putf P ix K nx lc st M
  | .iaload => s_ald 100 n K nx lc st M
  | .baload => s_ald 101 n K nx lc st M
  | .iastore => s_iast n K nx lc st M
  | .bastore => s_bast n K nx lc st M
  | .arraylength => s_alen n K nx lc st M
  | .invokevirtual ix => s_inv P false ix K nx lc st M
  | .invokestatic ix => s_inv P true ix K nx lc st M
  | .ireturn => s_iret R st M
  | .return_ => s_ret R st M
  | _ => False
def s_one (T : Tt) (P : Pool) (R : Rets) (n : Nn) (K : Kt) (pc : Nat) (lc : Lc) (st : List AV) (M : Mem) : Prop := match T pc with
  | some (i, nx, tg) => s_ins P R n K i nx tg lc st M
  | none => False
def elN (l : List Nat) (n : Nat) : Bool := match l with
  | [] => false
  | a :: r => cond (Nat.beq n a) true (elN r n)
/-- k instructions, or up to a stop: there (and when they are used up) 'aw' is wanted -/
def s_run (T : Tt) (P : Pool) (R : Rets) (n : Nn) (aw : Kt) (stops : List Nat) (k : Nat) : Kt := match k with
  | 0 => aw
  | k + 1 => s_one T P R n (fun pc lc st M => cond (elN stops pc) (And (aw pc lc st M) True) (s_run T P R n aw stops k pc lc st M))
def entL (vs : List AV) (nL : Nat) : Lc := vs.map some ++ List.replicate (nL - vs.length) none
def rvF (c : Call) (g : c.1) (vs : List AV) (M0 : Mem) (rt : Nat) : Rets := (rt, (fun M => match c.2.2.2 with
  | .inl pv => pv g vs M0 M
  | .inr _ => False), (fun x M => match c.2.2.2 with
  | .inl _ => False
  | .inr pi => pi g vs M0 x M))
/-- the method keeps its contract, by its own instructions and its callees' contracts -/
def Ver (T : Tt) (P : Pool) (rt nL : Nat) (n : Nn) (c : Call) : Prop := ∀ (g : c.1) (vs : List AV) (M0 : Mem), c.2.2.1 g vs M0 → ∀ aw : Kt, (∀ (k : Nat) (stops : List Nat) (pc : Nat) (lc : Lc) (st : List AV) (M : Mem), s_run T P (rvF c g vs M0 rt) n aw stops k pc lc st M → aw pc lc st M) → aw 0 (entL vs nL) [] M0
