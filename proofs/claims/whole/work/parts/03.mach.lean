/-! THE PURE MACHINE: values are Value, a reference is a small number (0 .. 4: constant arrays, 4 the script; from 8 on: cells in the order of their making) -/
abbrev Lv : Type := List (Nat × Value)
/-- cells, slots, shapes (tag, length), ints, longs, references -/
abbrev Me : Type := Nat × Nat × (Nat → Nat × Nat) × (Nat → Nat → Int32) × (Nat → Nat → Int64) × (Nat → Nat → Option Nat)
abbrev Ka : Type := Nat → Nat × (Nat → Int32)
def mN (M : Me) : Nat := M.1
def mS (M : Me) : Nat := M.2.1
def mH (M : Me) : Nat → Nat × Nat := M.2.2.1
def mI (M : Me) : Nat → Nat → Int32 := M.2.2.2.1
def mJ (M : Me) : Nat → Nat → Int64 := M.2.2.2.2.1
def mR (M : Me) : Nat → Nat → Option Nat := M.2.2.2.2.2
def wI (M : Me) (f : Nat → Nat → Int32) : Me := (M.1, M.2.1, M.2.2.1, f, M.2.2.2.2.1, M.2.2.2.2.2)
def wJ (M : Me) (f : Nat → Nat → Int64) : Me := (M.1, M.2.1, M.2.2.1, M.2.2.2.1, f, M.2.2.2.2.2)
def wR (M : Me) (f : Nat → Nat → Option Nat) : Me := (M.1, M.2.1, M.2.2.1, M.2.2.2.1, M.2.2.2.2.1, f)
/-- one place of one cell -/
def u2 {α : Type} (f : Nat → Nat → α) (a j : Nat) (v : α) : Nat → Nat → α := fun b => if b = a then va_up (f a) j v else f b
def lget : Lv → Nat → Option Value
  | [], _ => none
  | q :: r, i => if q.1 = i then some q.2 else lget r i
def lset1 (lv : Lv) (i : Nat) (v : Value) : Lv := (i, v) :: lv.filter (fun q => !(q.1 == i) && !(q.1 + 1 == i && q.2.category == 2))
def lset2 (lv : Lv) (i : Nat) (v : Value) : Lv := (i, v) :: lv.filter (fun q => !(q.1 == i) && (!(q.1 == i + 1) && !(q.1 + 1 == i && q.2.category == 2)))
def nf : Nat → Nat
  | 0 => 5
  | 1 => 12
  | 2 => 3
  | 3 => 13
  | 4 => 6
  | 5 => 23
  | _ => 0
def TXf : Nat → u_T
  | 0 => TX0
  | 1 => TX1
  | 2 => TX2
  | 3 => TX3
  | 4 => TX4
  | _ => TX5
def RXf : Nat → String
  | 0 => RX0
  | 1 => RX1
  | 2 => RX2
  | 3 => RX3
  | 4 => RX4
  | _ => RX5
def tyf : Nat → Nat → FieldType
  | 0 => tyX0
  | 1 => tyX1
  | 2 => tyX2
  | 3 => tyX3
  | 4 => tyX4
  | _ => tyX5
/-- 0 an int, 1 a boolean, 2 a reference -/
def fso (ci f : Nat) : Nat := match tyf ci f with
  | .int => 0
  | .boolean => 1
  | _ => 2
def rfv : Option Nat → Value
  | none => .null
  | some a => .ref a
def fval (M : Me) (a ci f : Nat) : Value := if fso ci f = 2 then rfv (mR M a f) else .int (mI M a f)
/-- a cell of the heap, of a shape -/
def isC (M : Me) (a t : Nat) : Bool := decide (8 ≤ a) && (decide (a < 8 + mN M) && decide ((mH M a).1 = t))
def inb (j : Int32) (n : Nat) : Bool := !(decide (j < 0) || decide (n ≤ j.toNatClampNeg))
def cmpI : ClassFile.Cond → Int32 → Int32 → Bool
  | .eq, x, y => decide (x = y)
  | .ne, x, y => decide (¬ x = y)
  | .lt, x, y => decide (x < y)
  | .ge, x, y => decide (y ≤ x)
  | .gt, x, y => decide (y < x)
  | .le, x, y => decide (x ≤ y)
def aty : ArrayType → Nat
  | .int => 10
  | .long => 11
  | .boolean => 12
  | _ => 0
/-- n more cells, w more slots, new shapes; what is in them is 0 and null -/
def mNew (M : Me) (n w : Nat) (h : Nat → Nat × Nat) (r : Nat → Nat → Option Nat) : Me :=
  (mN M + n, mS M + w, (fun a => if 8 + mN M ≤ a then h (a - (8 + mN M)) else mH M a), (fun a => if 8 + mN M ≤ a then (fun _ => 0) else mI M a), (fun a => if 8 + mN M ≤ a then (fun _ => 0) else mJ M a), (fun a => if 8 + mN M ≤ a then r (a - (8 + mN M)) else mR M a))
def pst (K : Ka) (ins : Instr) (k : Nat) (lv : Lv) (st : List Value) (M : Me) : Option (Nat × Lv × List Value × Me) :=
  match ins, st with
  | .iconst v, st => some (k + 1, lv, .int (Int32.ofInt v) :: st, M)
  | .ldc2_w v, st => some (k + 1, lv, .long (Int64.ofNat v) :: st, M)
  | .iload i, st => match lget lv i with
    | some (.int x) => some (k + 1, lv, .int x :: st, M)
    | _ => none
  | .lload i, st => match lget lv i with
    | some (.long x) => some (k + 1, lv, .long x :: st, M)
    | _ => none
  | .aload i, st => match lget lv i with
    | some (.ref x) => some (k + 1, lv, .ref x :: st, M)
    | _ => none
  | .istore i, .int x :: st => some (k + 1, lset1 lv i (.int x), st, M)
  | .lstore i, .long x :: st => some (k + 1, lset2 lv i (.long x), st, M)
  | .astore i, .ref x :: st => some (k + 1, lset1 lv i (.ref x), st, M)
  | .iinc i n, st => match lget lv i with
    | some (.int x) => some (k + 1, lset1 lv i (.int (x + Int32.ofInt n)), st, M)
    | _ => none
  | .iadd, .int y :: .int x :: st => some (k + 1, lv, .int (x + y) :: st, M)
  | .isub, .int y :: .int x :: st => some (k + 1, lv, .int (x - y) :: st, M)
  | .imul, .int y :: .int x :: st => some (k + 1, lv, .int (x * y) :: st, M)
  | .iand, .int y :: .int x :: st => some (k + 1, lv, .int (x &&& y) :: st, M)
  | .ixor, .int y :: .int x :: st => some (k + 1, lv, .int (x ^^^ y) :: st, M)
  | .ishl, .int y :: .int x :: st => some (k + 1, lv, .int (x <<< (y &&& 31)) :: st, M)
  | .ishr, .int y :: .int x :: st => some (k + 1, lv, .int (x >>> (y &&& 31)) :: st, M)
  | .iushr, .int y :: .int x :: st => some (k + 1, lv, .int (x.toUInt32 >>> (y.toUInt32 &&& Int32.toUInt32 31)).toInt32 :: st, M)
  | .idiv, .int y :: .int x :: st => if y = 0 then none else some (k + 1, lv, .int (x / y) :: st, M)
  | .irem, .int y :: .int x :: st => if y = 0 then none else some (k + 1, lv, .int (x - x / y * y) :: st, M)
  | .fadd, .int y :: .int x :: st => if (st.map fun v => v.category).sum ≤ 8 then some (k + 1, lv, .int (if x < y then y else x) :: st, M) else none
  | .fsub, .int y :: .int x :: st => if (st.map fun v => v.category).sum ≤ 8 then some (k + 1, lv, .int (if y < x then y else x) :: st, M) else none
  | .fmul, .int y :: .int x :: st => if y = 0 ∨ 8 < (st.map fun v => v.category).sum then none else some (k + 1, lv, .int (if (x ^^^ y) < 0 ∧ ¬ (x - x / y * y) = 0 then (x - x / y * y) + y else (x - x / y * y)) :: st, M)
  | .ineg, .int x :: st => some (k + 1, lv, .int (-x) :: st, M)
  | .ladd, .long y :: .long x :: st => some (k + 1, lv, .long (x + y) :: st, M)
  | .lsub, .long y :: .long x :: st => some (k + 1, lv, .long (x - y) :: st, M)
  | .lmul, .long y :: .long x :: st => some (k + 1, lv, .long (x * y) :: st, M)
  | .ldiv, .long y :: .long x :: st => if y = 0 then none else some (k + 1, lv, .long (x / y) :: st, M)
  | .lrem, .long y :: .long x :: st => if y = 0 then none else some (k + 1, lv, .long (x - x / y * y) :: st, M)
  | .i2l, .int x :: st => some (k + 1, lv, .long x.toInt64 :: st, M)
  | .l2i, .long x :: st => some (k + 1, lv, .int x.toInt32 :: st, M)
  | .lcmp, .long y :: .long x :: st => some (k + 1, lv, .int (lg_cmp x y) :: st, M)
  | .dup, v :: st => if v.category = 1 then some (k + 1, lv, v :: v :: st, M) else none
  | .dup2, v :: w :: st => if v.category = 1 ∧ w.category = 1 then some (k + 1, lv, v :: w :: v :: w :: st, M) else none
  | .pop, .ref _ :: st => if (st.map fun v => v.category).sum ≤ 8 then some (k + 1, lv, st, M) else none
  | .goto t, st => some (t.toNat, lv, st, M)
  | .ifCond c t, .int x :: st => some (if cmpI c x 0 = true then t.toNat else k + 1, lv, st, M)
  | .if_icmp c t, .int y :: .int x :: st => some (if cmpI c x y = true then t.toNat else k + 1, lv, st, M)
  | .tableswitch d lo hi ts, .int x :: st => if x.toInt < lo ∨ hi < x.toInt then some (d.toNat, lv, st, M) else match ts[(x.toInt - lo).toNat]? with
    | some t => some (t.toNat, lv, st, M)
    | none => none
  | .getfield n, .ref a :: st => if isC M a (n / 100) = true ∧ n / 100 < 6 ∧ n % 100 < nf (n / 100) then some (k + 1, lv, fval M a (n / 100) (n % 100) :: st, M) else none
  | .putfield n, v :: .ref a :: st => if isC M a (n / 100) = true ∧ n / 100 < 6 ∧ n % 100 < nf (n / 100) then
      match v with
      | .int x => if fso (n / 100) (n % 100) = 0 ∨ (fso (n / 100) (n % 100) = 1 ∧ (x = 0 ∨ x = 1)) then some (k + 1, lv, st, wI M (u2 (mI M) a (n % 100) x)) else none
      | .ref b => if fso (n / 100) (n % 100) = 2 then some (k + 1, lv, st, wR M (u2 (mR M) a (n % 100) (some b))) else none
      | _ => none
    else none
  | .getstatic j, st => some (k + 1, lv, .ref j :: st, M)
  | .arraylength, .ref a :: st => if a < 5 then some (k + 1, lv, .int (Int32.ofNat (K a).1) :: st, M) else none
  | .iaload, .int j :: .ref a :: st => if a < 5 then (if inb j (K a).1 = true then some (k + 1, lv, .int ((K a).2 j.toNatClampNeg) :: st, M) else none)
      else if isC M a 10 = true ∧ inb j (mH M a).2 = true then some (k + 1, lv, .int (mI M a j.toNatClampNeg) :: st, M) else none
  | .baload, .int j :: .ref a :: st => if isC M a 12 = true ∧ inb j (mH M a).2 = true then some (k + 1, lv, .int (mI M a j.toNatClampNeg) :: st, M) else none
  | .laload, .int j :: .ref a :: st => if isC M a 11 = true ∧ inb j (mH M a).2 = true then some (k + 1, lv, .long (mJ M a j.toNatClampNeg) :: st, M) else none
  | .aaload, .int j :: .ref a :: st => if isC M a 13 = true ∧ inb j (mH M a).2 = true then some (k + 1, lv, rfv (mR M a j.toNatClampNeg) :: st, M) else none
  | .iastore, .int x :: .int j :: .ref a :: st => if isC M a 10 = true ∧ inb j (mH M a).2 = true then some (k + 1, lv, st, wI M (u2 (mI M) a j.toNatClampNeg x)) else none
  | .bastore, .int x :: .int j :: .ref a :: st => if isC M a 12 = true ∧ inb j (mH M a).2 = true ∧ (x = 0 ∨ x = 1) then some (k + 1, lv, st, wI M (u2 (mI M) a j.toNatClampNeg x)) else none
  | .lastore, .long x :: .int j :: .ref a :: st => if isC M a 11 = true ∧ inb j (mH M a).2 = true then some (k + 1, lv, st, wJ M (u2 (mJ M) a j.toNatClampNeg x)) else none
  | .new ci, st => if ci < 6 then some (k + 1, lv, .ref (8 + mN M) :: st, mNew M 1 (nf ci) (fun _ => (ci, 0)) (fun _ _ => none)) else none
  | .newarray t, .int c :: st => if ¬ c < 0 ∧ c.toNatClampNeg ≤ 100000 ∧ aty t ≠ 0 then some (k + 1, lv, .ref (8 + mN M) :: st, mNew M 1 c.toNatClampNeg (fun _ => (aty t, c.toNatClampNeg)) (fun _ _ => none)) else none
  | .multianewarray _ _, .int w :: .int n :: st => if ¬ n < 0 ∧ ¬ w < 0 ∧ n.toNatClampNeg ≤ 100000 ∧ w.toNatClampNeg ≤ 100000 then
      some (k + 1, lv, .ref (8 + mN M) :: st, mNew M (1 + n.toNatClampNeg) (n.toNatClampNeg + n.toNatClampNeg * w.toNatClampNeg) (fun i => if i = 0 then (13, n.toNatClampNeg) else (10, w.toNatClampNeg)) (fun i j => if i = 0 ∧ j < n.toNatClampNeg then some (8 + mN M + 1 + j) else none)) else none
  | _, _ => none
/-- a call, or nothing -/
def isCall : Instr → Option Nat
  | .invokevirtual j => some j
  | .invokespecial j => some j
  | .invokestatic j => some j
  | _ => none
/-- a return: what is answered -/
def isRet (ins : Instr) (st : List Value) : Option (Option Value) :=
  match ins, st with
  | .ireturn, [.int v] => some (some (.int v))
  | .areturn, [.ref a] => some (some (.ref a))
  | .return_, [] => some none
  | _, _ => none
def nar (j : Nat) : Nat := match mT[j]? with
  | some e => e.2.2.2.2.1
  | none => 0
def pgo (K : Ka) (call : Nat → List Value → Me → Option (Option Value × Me)) (code : List Instr) : Nat → Nat → Lv → List Value → Me → Option (Option Value × Me)
  | 0, _, _, _, _ => none
  | f + 1, k, lv, st, M => match code[k]? with
    | none => none
    | some ins => match isRet ins st with
      | some r => some (r, M)
      | none => match isCall ins with
        | some j => if nar j ≤ st.length ∧ ((st.drop (nar j)).map fun v => v.category).sum ≤ 8 then
            match call j ((st.take (nar j)).reverse) M with
            | some (r, M1) => pgo K call code f (k + 1) lv (r.toList ++ st.drop (nar j)) M1
            | none => none
          else none
        | none => match pst K ins k lv st M with
          | some (k1, lv1, st1, M1) => pgo K call code f k1 lv1 st1 M1
          | none => none
def rcv (c : Nat) (as : List Value) (M : Me) : Bool := if c = 99 then true else match as with
  | .ref b :: _ => isC M b c
  | _ => false
def rok : Option FieldType → Option Value → Bool
  | none, none => true
  | some .int, some (.int _) => true
  | some .boolean, some (.int v) => v == 0 || v == 1
  | some (.array _), some (.ref _) => true
  | _, _ => false
def pex (K : Ka) (f : Nat) : Nat → Nat → List Value → Me → Option (Option Value × Me)
  | 0, _, _, _ => none
  | d + 1, j, as, M => match mT[j]? with
    | none => none
    | some e => if (as.length = e.2.2.2.2.1 ∧ (lg_sl as).length ≤ e.2.2.1 ∧ rcv e.2.2.2.2.2.1 as M = true) then
        match pgo K (pex K f d) e.2.2.2.2.2.2.2.1 f 0 (lv_args 0 as) [] M with
        | some (r, M1) => if rok e.2.2.2.1 r = true then some (r, M1) else none
        | none => none
      else none
theorem isC_iff {M : Me} {a t : Nat} (h : isC M a t = true) : 8 ≤ a ∧ a < 8 + mN M ∧ (mH M a).1 = t := by
  simp only [isC, Bool.and_eq_true, decide_eq_true_eq] at h
  exact ⟨h.1, h.2.1, h.2.2⟩
theorem isRet_no {pu : Instr} {st : List Value} (h : isCall pu ≠ none) : isRet pu st = none := by
  cases pu <;> first | rfl | exact absurd rfl h
theorem u2_ne {α : Type} {f : Nat → Nat → α} {a b j : Nat} {v : α} (h : b ≠ a) : u2 f a j v b = f b := by
  unfold u2; rw [if_neg h]
theorem u2_eq {α : Type} {f : Nat → Nat → α} {a j : Nat} {v : α} : u2 f a j v a = va_up (f a) j v := by
  unfold u2; rw [if_pos rfl]
