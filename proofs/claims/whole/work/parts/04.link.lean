def jMmax : Nat := 166
def jMmin : Nat := 167
def jMfloorMod : Nat := 165
/-- a pure instruction and the real one at its place; oc: own class, nL: locals, ini: a constructor -/
def lnk (oc nL : Nat) (ini : Bool) (pcs : List Nat) (k ln : Nat) (pu re : Instr) : Bool :=
  match pu, re with
  | .iconst v, .iconst n => (decide (ln = 1)) && (decide (pcs.getD (k + 1) 0 = pcs.getD k 0 + ln)) && (decide (Int32.ofInt n = Int32.ofInt v))
  | .iconst v, .bipush n => (decide (ln = 2)) && (decide (pcs.getD (k + 1) 0 = pcs.getD k 0 + ln)) && (decide ((Int8.ofInt n).toInt32 = Int32.ofInt v))
  | .iconst v, .sipush n => (decide (ln = 3)) && (decide (pcs.getD (k + 1) 0 = pcs.getD k 0 + ln)) && (decide ((Int16.ofInt n).toInt32 = Int32.ofInt v))
  | .iconst v, .ldc i => (decide (ln = 2)) && (decide (pcs.getD (k + 1) 0 = pcs.getD k 0 + ln)) && (lkI.any (fun q => decide (q.1 = oc ∧ q.2.1 = i ∧ q.2.2.1 = v)))
  | .iconst v, .ldc_w i => (decide (ln = 3)) && (decide (pcs.getD (k + 1) 0 = pcs.getD k 0 + ln)) && (lkI.any (fun q => decide (q.1 = oc ∧ q.2.1 = i ∧ q.2.2.1 = v)))
  | .ldc2_w v, .lconst n => (decide (ln = 1)) && (decide (pcs.getD (k + 1) 0 = pcs.getD k 0 + ln)) && (decide (Int64.ofNat (n : Nat) = Int64.ofNat v))
  | .ldc2_w v, .ldc2_w i => (decide (ln = 3)) && (decide (pcs.getD (k + 1) 0 = pcs.getD k 0 + ln)) && (lkL.any (fun q => decide (q.1 = oc ∧ q.2.1 = i ∧ q.2.2.1 = v)))
  | .iload i, .iload_n n => (decide (ln = 1)) && (decide (pcs.getD (k + 1) 0 = pcs.getD k 0 + ln)) && (decide ((n : Nat) = i))
  | .iload i, .iload i2 => (decide (ln = 2)) && (decide (pcs.getD (k + 1) 0 = pcs.getD k 0 + ln)) && (decide (i2 = i))
  | .istore i, .istore_n n => (decide (ln = 1)) && (decide (pcs.getD (k + 1) 0 = pcs.getD k 0 + ln)) && (decide ((n : Nat) = i) && decide (i < nL))
  | .istore i, .istore i2 => (decide (ln = 2)) && (decide (pcs.getD (k + 1) 0 = pcs.getD k 0 + ln)) && (decide (i2 = i) && decide (i < nL))
  | .lload i, .lload_n n => (decide (ln = 1)) && (decide (pcs.getD (k + 1) 0 = pcs.getD k 0 + ln)) && (decide ((n : Nat) = i))
  | .lload i, .lload i2 => (decide (ln = 2)) && (decide (pcs.getD (k + 1) 0 = pcs.getD k 0 + ln)) && (decide (i2 = i))
  | .lstore i, .lstore_n n => (decide (ln = 1)) && (decide (pcs.getD (k + 1) 0 = pcs.getD k 0 + ln)) && (decide ((n : Nat) = i) && decide (i + 1 < nL))
  | .lstore i, .lstore i2 => (decide (ln = 2)) && (decide (pcs.getD (k + 1) 0 = pcs.getD k 0 + ln)) && (decide (i2 = i) && decide (i + 1 < nL))
  | .aload i, .aload_n n => (decide (ln = 1)) && (decide (pcs.getD (k + 1) 0 = pcs.getD k 0 + ln)) && (decide ((n : Nat) = i))
  | .aload i, .aload i2 => (decide (ln = 2)) && (decide (pcs.getD (k + 1) 0 = pcs.getD k 0 + ln)) && (decide (i2 = i))
  | .astore i, .astore_n n => (decide (ln = 1)) && (decide (pcs.getD (k + 1) 0 = pcs.getD k 0 + ln)) && (decide ((n : Nat) = i) && decide (i < nL))
  | .astore i, .astore i2 => (decide (ln = 2)) && (decide (pcs.getD (k + 1) 0 = pcs.getD k 0 + ln)) && (decide (i2 = i) && decide (i < nL))
  | .iinc i n, .iinc i2 n2 => (decide (ln = 3)) && (decide (pcs.getD (k + 1) 0 = pcs.getD k 0 + ln)) && (decide (i2 = i ∧ n2 = n) && decide (i < nL))
  | .iadd, .iadd => (decide (ln = 1)) && (decide (pcs.getD (k + 1) 0 = pcs.getD k 0 + ln))
  | .isub, .isub => (decide (ln = 1)) && (decide (pcs.getD (k + 1) 0 = pcs.getD k 0 + ln))
  | .imul, .imul => (decide (ln = 1)) && (decide (pcs.getD (k + 1) 0 = pcs.getD k 0 + ln))
  | .iand, .iand => (decide (ln = 1)) && (decide (pcs.getD (k + 1) 0 = pcs.getD k 0 + ln))
  | .ixor, .ixor => (decide (ln = 1)) && (decide (pcs.getD (k + 1) 0 = pcs.getD k 0 + ln))
  | .ishl, .ishl => (decide (ln = 1)) && (decide (pcs.getD (k + 1) 0 = pcs.getD k 0 + ln))
  | .ishr, .ishr => (decide (ln = 1)) && (decide (pcs.getD (k + 1) 0 = pcs.getD k 0 + ln))
  | .iushr, .iushr => (decide (ln = 1)) && (decide (pcs.getD (k + 1) 0 = pcs.getD k 0 + ln))
  | .idiv, .idiv => (decide (ln = 1)) && (decide (pcs.getD (k + 1) 0 = pcs.getD k 0 + ln))
  | .irem, .irem => (decide (ln = 1)) && (decide (pcs.getD (k + 1) 0 = pcs.getD k 0 + ln))
  | .ldiv, .ldiv => (decide (ln = 1)) && (decide (pcs.getD (k + 1) 0 = pcs.getD k 0 + ln))
  | .lrem, .lrem => (decide (ln = 1)) && (decide (pcs.getD (k + 1) 0 = pcs.getD k 0 + ln))
  | .ineg, .ineg => (decide (ln = 1)) && (decide (pcs.getD (k + 1) 0 = pcs.getD k 0 + ln))
  | .ladd, .ladd => (decide (ln = 1)) && (decide (pcs.getD (k + 1) 0 = pcs.getD k 0 + ln))
  | .lsub, .lsub => (decide (ln = 1)) && (decide (pcs.getD (k + 1) 0 = pcs.getD k 0 + ln))
  | .lmul, .lmul => (decide (ln = 1)) && (decide (pcs.getD (k + 1) 0 = pcs.getD k 0 + ln))
  | .i2l, .i2l => (decide (ln = 1)) && (decide (pcs.getD (k + 1) 0 = pcs.getD k 0 + ln))
  | .l2i, .l2i => (decide (ln = 1)) && (decide (pcs.getD (k + 1) 0 = pcs.getD k 0 + ln))
  | .lcmp, .lcmp => (decide (ln = 1)) && (decide (pcs.getD (k + 1) 0 = pcs.getD k 0 + ln))
  | .dup, .dup => (decide (ln = 1)) && (decide (pcs.getD (k + 1) 0 = pcs.getD k 0 + ln))
  | .dup2, .dup2 => (decide (ln = 1)) && (decide (pcs.getD (k + 1) 0 = pcs.getD k 0 + ln))
  | .pop, .invokespecial i => (decide (ln = 3)) && (decide (pcs.getD (k + 1) 0 = pcs.getD k 0 + ln)) && (lkO.any (fun q => decide (q.1 = oc ∧ q.2.1 = i)))
  | .goto t, .goto o => (decide (ln = 3)) && (decide (((pcs.getD k 0 : Nat) : Int) + o = ((pcs.getD t.toNat 0 : Nat) : Int)))
  | .ifCond .eq t, .ifCond .eq o => (decide (ln = 3)) && (decide (pcs.getD (k + 1) 0 = pcs.getD k 0 + ln)) && (decide (((pcs.getD k 0 : Nat) : Int) + o = ((pcs.getD t.toNat 0 : Nat) : Int)))
  | .ifCond .ne t, .ifCond .ne o => (decide (ln = 3)) && (decide (pcs.getD (k + 1) 0 = pcs.getD k 0 + ln)) && (decide (((pcs.getD k 0 : Nat) : Int) + o = ((pcs.getD t.toNat 0 : Nat) : Int)))
  | .ifCond .lt t, .ifCond .lt o => (decide (ln = 3)) && (decide (pcs.getD (k + 1) 0 = pcs.getD k 0 + ln)) && (decide (((pcs.getD k 0 : Nat) : Int) + o = ((pcs.getD t.toNat 0 : Nat) : Int)))
  | .ifCond .ge t, .ifCond .ge o => (decide (ln = 3)) && (decide (pcs.getD (k + 1) 0 = pcs.getD k 0 + ln)) && (decide (((pcs.getD k 0 : Nat) : Int) + o = ((pcs.getD t.toNat 0 : Nat) : Int)))
  | .ifCond .gt t, .ifCond .gt o => (decide (ln = 3)) && (decide (pcs.getD (k + 1) 0 = pcs.getD k 0 + ln)) && (decide (((pcs.getD k 0 : Nat) : Int) + o = ((pcs.getD t.toNat 0 : Nat) : Int)))
  | .ifCond .le t, .ifCond .le o => (decide (ln = 3)) && (decide (pcs.getD (k + 1) 0 = pcs.getD k 0 + ln)) && (decide (((pcs.getD k 0 : Nat) : Int) + o = ((pcs.getD t.toNat 0 : Nat) : Int)))
  | .if_icmp .eq t, .if_icmp .eq o => (decide (ln = 3)) && (decide (pcs.getD (k + 1) 0 = pcs.getD k 0 + ln)) && (decide (((pcs.getD k 0 : Nat) : Int) + o = ((pcs.getD t.toNat 0 : Nat) : Int)))
  | .if_icmp .ne t, .if_icmp .ne o => (decide (ln = 3)) && (decide (pcs.getD (k + 1) 0 = pcs.getD k 0 + ln)) && (decide (((pcs.getD k 0 : Nat) : Int) + o = ((pcs.getD t.toNat 0 : Nat) : Int)))
  | .if_icmp .lt t, .if_icmp .lt o => (decide (ln = 3)) && (decide (pcs.getD (k + 1) 0 = pcs.getD k 0 + ln)) && (decide (((pcs.getD k 0 : Nat) : Int) + o = ((pcs.getD t.toNat 0 : Nat) : Int)))
  | .if_icmp .ge t, .if_icmp .ge o => (decide (ln = 3)) && (decide (pcs.getD (k + 1) 0 = pcs.getD k 0 + ln)) && (decide (((pcs.getD k 0 : Nat) : Int) + o = ((pcs.getD t.toNat 0 : Nat) : Int)))
  | .if_icmp .gt t, .if_icmp .gt o => (decide (ln = 3)) && (decide (pcs.getD (k + 1) 0 = pcs.getD k 0 + ln)) && (decide (((pcs.getD k 0 : Nat) : Int) + o = ((pcs.getD t.toNat 0 : Nat) : Int)))
  | .if_icmp .le t, .if_icmp .le o => (decide (ln = 3)) && (decide (pcs.getD (k + 1) 0 = pcs.getD k 0 + ln)) && (decide (((pcs.getD k 0 : Nat) : Int) + o = ((pcs.getD t.toNat 0 : Nat) : Int)))
  | .tableswitch d lo hi ts, .tableswitch d2 lo2 hi2 ts2 => (decide (lo2 = lo ∧ hi2 = hi ∧ ((pcs.getD k 0 : Nat) : Int) + d2 = ((pcs.getD d.toNat 0 : Nat) : Int)) && decide (ts2.toList.map (fun o => ((pcs.getD k 0 : Nat) : Int) + o) = ts.toList.map (fun t => ((pcs.getD t.toNat 0 : Nat) : Int))))
  | .getfield n, .getfield i => (decide (ln = 3)) && (decide (pcs.getD (k + 1) 0 = pcs.getD k 0 + ln)) && (lkF.any (fun q => decide (q.1 = oc ∧ q.2.1 = i ∧ 100 * q.2.2.1 + q.2.2.2.1 = n)))
  | .putfield n, .putfield i => (decide (ln = 3)) && (decide (pcs.getD (k + 1) 0 = pcs.getD k 0 + ln)) && (lkF.any (fun q => decide (q.1 = oc ∧ q.2.1 = i ∧ 100 * q.2.2.1 + q.2.2.2.1 = n)) && (!(TXf (n / 100) (n % 100)).2.2.2 || (ini && decide (n / 100 = oc))))
  | .getstatic j, .getstatic i => (decide (ln = 3)) && (decide (pcs.getD (k + 1) 0 = pcs.getD k 0 + ln)) && (lkS.any (fun q => decide (q.1 = oc ∧ q.2.1 = i ∧ q.2.2.1 = j)))
  | .arraylength, .arraylength => (decide (ln = 1)) && (decide (pcs.getD (k + 1) 0 = pcs.getD k 0 + ln))
  | .iaload, .iaload => (decide (ln = 1)) && (decide (pcs.getD (k + 1) 0 = pcs.getD k 0 + ln))
  | .baload, .baload => (decide (ln = 1)) && (decide (pcs.getD (k + 1) 0 = pcs.getD k 0 + ln))
  | .laload, .laload => (decide (ln = 1)) && (decide (pcs.getD (k + 1) 0 = pcs.getD k 0 + ln))
  | .aaload, .aaload => (decide (ln = 1)) && (decide (pcs.getD (k + 1) 0 = pcs.getD k 0 + ln))
  | .iastore, .iastore => (decide (ln = 1)) && (decide (pcs.getD (k + 1) 0 = pcs.getD k 0 + ln))
  | .bastore, .bastore => (decide (ln = 1)) && (decide (pcs.getD (k + 1) 0 = pcs.getD k 0 + ln))
  | .lastore, .lastore => (decide (ln = 1)) && (decide (pcs.getD (k + 1) 0 = pcs.getD k 0 + ln))
  | .new ci, .new i => (decide (ln = 3)) && (decide (pcs.getD (k + 1) 0 = pcs.getD k 0 + ln)) && (lkC.any (fun q => decide (q.1 = oc ∧ q.2.1 = i ∧ q.2.2.1 = ci)))
  | .newarray t, .newarray t2 => (decide (ln = 2)) && (decide (pcs.getD (k + 1) 0 = pcs.getD k 0 + ln)) && (decide (t2 = t))
  | .multianewarray x1 x2, .multianewarray i dm => (decide (ln = 4)) && (decide (pcs.getD (k + 1) 0 = pcs.getD k 0 + ln)) && (lkA.any (fun q => decide (q.1 = oc ∧ q.2.1 = i)) && decide (dm = 2))
  | .fadd, .invokestatic i => (decide (ln = 3)) && (decide (pcs.getD (k + 1) 0 = pcs.getD k 0 + ln)) && (lkM.any (fun q => decide (q.1 = oc ∧ q.2.1 = i ∧ q.2.2.1 = jMmax)))
  | .fsub, .invokestatic i => (decide (ln = 3)) && (decide (pcs.getD (k + 1) 0 = pcs.getD k 0 + ln)) && (lkM.any (fun q => decide (q.1 = oc ∧ q.2.1 = i ∧ q.2.2.1 = jMmin)))
  | .fmul, .invokestatic i => (decide (ln = 3)) && (decide (pcs.getD (k + 1) 0 = pcs.getD k 0 + ln)) && (lkM.any (fun q => decide (q.1 = oc ∧ q.2.1 = i ∧ q.2.2.1 = jMfloorMod)))
  | _, _ => false
def me (j : Nat) : mE := mT.getD j me_0
/-- calls: the real instruction, its link; 3 bytes, and on -/
def lnkC (oc : Nat) (pcs : List Nat) (k ln : Nat) (pu re : Instr) : Bool :=
  match pu, re with
  | .invokevirtual j, .invokevirtual i => decide (ln = 3 ∧ j < 165 ∧ (me j).2.2.2.2.2.1 ≠ 99 ∧ (me j).1.name ≠ "<init>") && (decide (pcs.getD (k + 1) 0 = pcs.getD k 0 + ln) && lkM.any (fun q => decide (q.1 = oc ∧ q.2.1 = i ∧ q.2.2.1 = j)))
  | .invokestatic j, .invokestatic i => decide (ln = 3 ∧ j < 165 ∧ (me j).2.2.2.2.2.1 = 99) && (decide (pcs.getD (k + 1) 0 = pcs.getD k 0 + ln) && lkM.any (fun q => decide (q.1 = oc ∧ q.2.1 = i ∧ q.2.2.1 = j)))
  | .invokespecial j, .invokespecial i => decide (ln = 3 ∧ j < 165 ∧ (me j).2.2.2.2.2.1 ≠ 99 ∧ (me j).1.name = "<init>" ∧ (me j).2.2.2.1.isNone = true) && (decide (pcs.getD (k + 1) 0 = pcs.getD k 0 + ln) && (lkM.any (fun q => decide (q.1 = oc ∧ q.2.1 = i ∧ q.2.2.1 = j)) || lkN.any (fun q => decide (q.1 = oc ∧ q.2.1 = i ∧ q.2.2.1 = j))))
  | _, _ => false
def lnkR (ln : Nat) (pu re : Instr) : Bool :=
  match pu, re with
  | .ireturn, .ireturn => decide (ln = 1)
  | .areturn, .areturn => decide (ln = 1)
  | .return_, .return_ => decide (ln = 1)
  | _, _ => false
/-- the pure code from place k on is the real code -/
def chkL (bs : ByteArray) (oc nL : Nat) (ini : Bool) (pcs : List Nat) : Nat → List Instr → Bool
  | _, [] => true
  | k, pu :: r => (match decode bs (pcs.getD k 0) with
      | .ok (re, ln) => lnkR ln pu re || (lnkC oc pcs k ln pu re || lnk oc nL ini pcs k ln pu re)
      | _ => false) && chkL bs oc nL ini pcs (k + 1) r
def chkE (e : mE) : Bool := chkL e.2.1 e.2.2.2.2.2.2.1 e.2.2.1 (decide (e.1.name = "<init>")) e.2.2.2.2.2.2.2.2 0 e.2.2.2.2.2.2.2.1
theorem chkL_at {bs : ByteArray} {oc nL : Nat} {ini : Bool} {pcs : List Nat} : ∀ (cs : List Instr) (k i : Nat) (pu : Instr), chkL bs oc nL ini pcs k cs = true → cs[i]? = some pu → ∃ re ln, decode bs (pcs.getD (k + i) 0) = .ok (re, ln) ∧ (lnkR ln pu re = true ∨ lnkC oc pcs (k + i) ln pu re = true ∨ lnk oc nL ini pcs (k + i) ln pu re = true)
  | [], _, _, _, _, hi => by simp at hi
  | c :: cs, k, i, pu, h, hi => by
    rw [chkL, Bool.and_eq_true] at h
    cases i with
    | zero =>
      simp only [List.getElem?_cons_zero, Option.some.injEq] at hi
      subst hi
      have h1 := h.1
      split at h1
      · next re ln hd =>
        refine ⟨re, ln, hd, ?_⟩
        simp only [Bool.or_eq_true] at h1
        exact h1
      · cases h1
    | succ i =>
      rw [List.getElem?_cons_succ] at hi
      have := chkL_at cs (k + 1) i pu h.2 hi
      rw [show k + 1 + i = k + (i + 1) by omega] at this
      exact this

/-- the words that every method has: the good ones of the tables -/
def gw : List Cond := lw_tbl.filter goodWord
theorem gw_of {i : Nat} {w : Cond} (h : lw_tbl[i]? = some w) (hg : goodWord w = true) : w ∈ gw := List.mem_filter.mpr ⟨List.mem_of_getElem? h, hg⟩
theorem gw_in {w : Cond} (h : w ∈ gw) : w ∈ lw_tbl := (List.mem_filter.mp h).1
theorem gw_good : GoodIn gw gw := fun w h => ⟨h, good_of_word (List.mem_filter.mp h).2⟩
def gwAt (i : Nat) (w : Cond) : Bool := decide (lw_tbl[i]? = some w) && goodWord w
theorem gwAt_in {i : Nat} {w : Cond} (h : gwAt i w = true) : w ∈ gw := by
  rw [gwAt, Bool.and_eq_true] at h
  exact gw_of (of_decide_eq_true h.1) h.2
def cnm (c : Nat) : String := cn.getD c ""
set_option maxRecDepth 100000 in
theorem lkM_ok : lkM.all (fun q => gwAt q.2.2.2 (.methodLink (cnm q.1) q.2.1 (me q.2.2.1).1)) = true := by decide +kernel
set_option maxRecDepth 100000 in
theorem lkN_ok : lkN.all (fun q => decide (lw_tbl[q.2.2.2]? = some (.methodLinkNest (cnm q.1) q.2.1 (me q.2.2.1).1 "CompassTowers"))) = true := by decide +kernel
set_option maxRecDepth 100000 in
theorem lkF_ok : lkF.all (fun q => gwAt q.2.2.2.2 (.fieldLink (cnm q.1) q.2.1 (TXf q.2.2.1 q.2.2.2.1).1 (TXf q.2.2.1 q.2.2.2.1).2.1 (TXf q.2.2.1 q.2.2.2.1).2.2.1) && decide (q.2.2.1 < 6 ∧ q.2.2.2.1 < nf q.2.2.1)) = true := by decide +kernel
def stC : Nat → String
  | 0 => "CompassTowers$Tower"
  | _ => "CompassTowers$Steps"
def stN : Nat → String
  | 0 => "SPANS"
  | 1 => "SORT_OF_KIND"
  | 2 => "ROWS_OF_SORT"
  | _ => "TELLS"
set_option maxRecDepth 100000 in
theorem lkS_ok : lkS.all (fun q => gwAt q.2.2.2 (.fieldLink (cnm q.1) q.2.1 (stC q.2.2.1) (stN q.2.2.1) "[I") && decide (q.2.2.1 < 4)) = true := by decide +kernel
set_option maxRecDepth 100000 in
theorem lkC_ok : lkC.all (fun q => gwAt q.2.2.2 (.classLink (cnm q.1) q.2.1 (RXf q.2.2.1))) = true := by decide +kernel
set_option maxRecDepth 100000 in
theorem lkA_ok : lkA.all (fun q => gwAt q.2.2 (.classLink (cnm q.1) q.2.1 "[[I")) = true := by decide +kernel
set_option maxRecDepth 100000 in
theorem lkO_ok : lkO.all (fun q => gwAt q.2.2 (.methodLink (cnm q.1) q.2.1 objectInit)) = true := by decide +kernel
set_option maxRecDepth 100000 in
theorem lkI_ok : lkI.all (fun q => gwAt q.2.2.2 (.constant (cnm q.1) q.2.1 (Int32.ofInt q.2.2.1))) = true := by decide +kernel
set_option maxRecDepth 100000 in
theorem lkL_ok : lkL.all (fun q => gwAt q.2.2.2 (.constantLong (cnm q.1) q.2.1 (Int64.ofNat q.2.2.1))) = true := by decide +kernel
/-- a method's own words: its code; instance: that, selects (but constructors); static; its class is initialised; its name is plain -/
def mwOk (j : Nat) : Bool :=
  let e := me j
  let q := mW.getD j (0, 0, 0, 0)
  (gwAt q.2.2.2 (.initialized e.1.cls) && ((if e.2.2.2.2.2.1 = 99 then gwAt q.2.1 (.static e.1) else gwAt q.2.1 (.instanceMethod e.1) && (if e.1.name = "<init>" then true else gwAt q.2.2.1 (.selects e.1.cls e.1 e.1))) && (plainName e.1.cls && (decide (e.1.cls ≠ "java/lang/invoke/MethodHandle" ∧ e.1.cls ≠ "java/lang/invoke/VarHandle") && (decide ((parseMethodDescriptor e.1.desc).map (fun d => d.parameters.length + (if e.2.2.2.2.2.1 = 99 then 0 else 1)) = some e.2.2.2.2.1) && (decide (e.2.2.1 ≤ 40) && (decide (e.1.cls = cnm e.2.2.2.2.2.2.1) && decide (e.2.2.2.2.2.1 = 99 ∨ (e.2.2.2.2.2.1 = e.2.2.2.2.2.2.1 ∧ e.2.2.2.2.2.1 < 6)))))))))
set_option maxRecDepth 100000 in
theorem mw_0 : ((List.range 15).map (fun i => mwOk (0 + i))).all id = true := by decide +kernel
set_option maxRecDepth 100000 in
theorem mw_15 : ((List.range 15).map (fun i => mwOk (15 + i))).all id = true := by decide +kernel
set_option maxRecDepth 100000 in
theorem mw_30 : ((List.range 15).map (fun i => mwOk (30 + i))).all id = true := by decide +kernel
set_option maxRecDepth 100000 in
theorem mw_45 : ((List.range 15).map (fun i => mwOk (45 + i))).all id = true := by decide +kernel
set_option maxRecDepth 100000 in
theorem mw_60 : ((List.range 15).map (fun i => mwOk (60 + i))).all id = true := by decide +kernel
set_option maxRecDepth 100000 in
theorem mw_75 : ((List.range 15).map (fun i => mwOk (75 + i))).all id = true := by decide +kernel
set_option maxRecDepth 100000 in
theorem mw_90 : ((List.range 15).map (fun i => mwOk (90 + i))).all id = true := by decide +kernel
set_option maxRecDepth 100000 in
theorem mw_105 : ((List.range 15).map (fun i => mwOk (105 + i))).all id = true := by decide +kernel
set_option maxRecDepth 100000 in
theorem mw_120 : ((List.range 15).map (fun i => mwOk (120 + i))).all id = true := by decide +kernel
set_option maxRecDepth 100000 in
theorem mw_135 : ((List.range 15).map (fun i => mwOk (135 + i))).all id = true := by decide +kernel
set_option maxRecDepth 100000 in
theorem mw_150 : ((List.range 15).map (fun i => mwOk (150 + i))).all id = true := by decide +kernel
