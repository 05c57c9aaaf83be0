theorem pst_iload' {K : Ka} {k i : Nat} {lv : Lv} {st : List Value} {M : Me} {x} (h : lget lv i = some (.int x)) : pst K (.iload i) k lv st M = some (k + 1, lv, .int x :: st, M) := by
  show (match lget lv i with | some (.int x) => some (k + 1, lv, Value.int x :: st, M) | _ => none) = _
  rw [h]
theorem pst_lload' {K : Ka} {k i : Nat} {lv : Lv} {st : List Value} {M : Me} {x} (h : lget lv i = some (.long x)) : pst K (.lload i) k lv st M = some (k + 1, lv, .long x :: st, M) := by
  show (match lget lv i with | some (.long x) => some (k + 1, lv, Value.long x :: st, M) | _ => none) = _
  rw [h]
theorem pst_aload' {K : Ka} {k i : Nat} {lv : Lv} {st : List Value} {M : Me} {x} (h : lget lv i = some (.ref x)) : pst K (.aload i) k lv st M = some (k + 1, lv, .ref x :: st, M) := by
  show (match lget lv i with | some (.ref x) => some (k + 1, lv, Value.ref x :: st, M) | _ => none) = _
  rw [h]
theorem pst_iinc' {K : Ka} {k i : Nat} {n : Int} {lv : Lv} {st : List Value} {M : Me} {x : Int32} (h : lget lv i = some (.int x)) : pst K (.iinc i n) k lv st M = some (k + 1, lset1 lv i (.int (x + Int32.ofInt n)), st, M) := by
  show (match lget lv i with | some (.int x) => some (k + 1, lset1 lv i (.int (x + Int32.ofInt n)), st, M) | _ => none) = _
  rw [h]
/-! LEVEL 1: a logic for runs of the pure machine -/
theorem pgo_up {K : Ka} {call call' : Nat → List Value → Me → Option (Option Value × Me)} {code : List Instr} (hc : ∀ j as M z, call j as M = some z → call' j as M = some z) : ∀ (n n' k : Nat) (lv : Lv) (st : List Value) (M : Me) (z : Option Value × Me), n ≤ n' → pgo K call code n k lv st M = some z → pgo K call' code n' k lv st M = some z
  | 0, _, _, _, _, _, _, _, h => by cases h
  | n + 1, 0, _, _, _, _, _, hn, _ => by omega
  | n + 1, n' + 1, k, lv, st, M, z, hn, h => by
    rw [pgo] at h ⊢
    split at h
    · cases h
    · next ins hi =>
      try rw [hi]
      try dsimp only
      split at h
      · next hr => (try rw [hr]); exact h
      · next hr =>
        try rw [hr]
        try dsimp only
        split at h
        · next j hj =>
          try rw [hj]
          try dsimp only
          split at h
          · next hif =>
            rw [if_pos hif]
            split at h
            · next r1 M1 hcl =>
              rw [hc _ _ _ _ hcl]
              exact pgo_up hc n n' _ _ _ _ _ (by omega) h
            · cases h
          · cases h
        · next hj =>
          try rw [hj]
          try dsimp only
          split at h
          · next hst =>
            try rw [hst]
            exact pgo_up hc n n' _ _ _ _ _ (by omega) h
          · cases h
theorem pex_up {K : Ka} {f f' : Nat} (hf : f ≤ f') : ∀ (d d' j : Nat) (as : List Value) (M : Me) (z : Option Value × Me), d ≤ d' → pex K f d j as M = some z → pex K f' d' j as M = some z
  | 0, _, _, _, _, _, _, h => by cases h
  | d + 1, 0, _, _, _, _, hd, _ => by omega
  | d + 1, d' + 1, j, as, M, z, hd, h => by
    rw [pex] at h ⊢
    split at h
    · cases h
    · next e he =>
      try rw [he]
      try dsimp only
      split at h
      · next hg =>
        rw [if_pos hg]
        split at h
        · next r M1 hgo =>
          rw [pgo_up (fun j as M z h => pex_up hf d d' j as M z (by omega) h) _ _ _ _ _ _ _ hf hgo]
          exact h
        · cases h
      · cases h
def Ok (K : Ka) (d j : Nat) (as : List Value) (M : Me) (post : Option Value → Me → Prop) : Prop := ∃ f r M1, pex K f d j as M = some (r, M1) ∧ post r M1
def Rn (K : Ka) (d : Nat) (code : List Instr) (k : Nat) (lv : Lv) (st : List Value) (M : Me) (post : Option Value → Me → Prop) : Prop := ∃ f r M1, pgo K (pex K f d) code f k lv st M = some (r, M1) ∧ post r M1
theorem Ok.up {K : Ka} {d d' j : Nat} {as : List Value} {M : Me} {post post' : Option Value → Me → Prop} (h : Ok K d j as M post) (hd : d ≤ d') (hp : ∀ r M1, post r M1 → post' r M1) : Ok K d' j as M post' := by
  obtain ⟨f, r, M1, h1, h2⟩ := h
  exact ⟨f, r, M1, pex_up (Nat.le_refl f) d d' j as M _ hd h1, hp r M1 h2⟩
theorem Rn.mono {K : Ka} {d : Nat} {code : List Instr} {k : Nat} {lv : Lv} {st : List Value} {M : Me} {post post' : Option Value → Me → Prop} (h : Rn K d code k lv st M post) (hp : ∀ r M1, post r M1 → post' r M1) : Rn K d code k lv st M post' := by
  obtain ⟨f, r, M1, h1, h2⟩ := h
  exact ⟨f, r, M1, h1, hp r M1 h2⟩
theorem Rn.ret {K : Ka} {d : Nat} {code : List Instr} {k : Nat} {lv : Lv} {st : List Value} {M : Me} {post : Option Value → Me → Prop} {ins : Instr} {r : Option Value} (hc : code[k]? = some ins) (hr : isRet ins st = some r) (hp : post r M) : Rn K d code k lv st M post := by
  refine ⟨1, r, M, ?_, hp⟩
  rw [pgo, hc]
  dsimp only
  rw [hr]
theorem Rn.step {K : Ka} {d : Nat} {code : List Instr} {k k1 : Nat} {lv lv1 : Lv} {st st1 : List Value} {M M1 : Me} {post : Option Value → Me → Prop} {ins : Instr} (hc : code[k]? = some ins) (hr : isRet ins st = none) (hj : isCall ins = none) (hs : pst K ins k lv st M = some (k1, lv1, st1, M1)) (h : Rn K d code k1 lv1 st1 M1 post) : Rn K d code k lv st M post := by
  obtain ⟨f, r, M2, h1, h2⟩ := h
  refine ⟨f + 1, r, M2, ?_, h2⟩
  rw [pgo, hc]
  dsimp only
  rw [hr]
  dsimp only
  rw [hj]
  dsimp only
  rw [hs]
  dsimp only
  exact pgo_up (fun j as M z h => pex_up (Nat.le_succ f) d d j as M z (Nat.le_refl d) h) _ _ _ _ _ _ _ (Nat.le_refl f) h1
theorem Rn.call {K : Ka} {d : Nat} {code : List Instr} {k j : Nat} {lv : Lv} {st : List Value} {M : Me} {post : Option Value → Me → Prop} {ins : Instr} (hc : code[k]? = some ins) (hj : isCall ins = some j) (hn : nar j ≤ st.length ∧ ((st.drop (nar j)).map fun v => v.category).sum ≤ 8) (h : Ok K d j ((st.take (nar j)).reverse) M (fun r M1 => Rn K d code (k + 1) lv (r.toList ++ st.drop (nar j)) M1 post)) : Rn K d code k lv st M post := by
  obtain ⟨f1, r1, M1, h1, f2, r, M2, h2, hp⟩ := h
  refine ⟨f1 + f2 + 1, r, M2, ?_, hp⟩
  rw [pgo, hc]
  dsimp only
  rw [isRet_no (by rw [hj]; exact fun q => by cases q)]
  dsimp only
  rw [hj]
  dsimp only
  rw [if_pos hn, pex_up (f' := f1 + f2 + 1) (by omega) d d j _ M _ (Nat.le_refl d) h1]
  dsimp only
  exact pgo_up (fun j as M z h => pex_up (by omega) d d j as M z (Nat.le_refl d) h) _ _ _ _ _ _ _ (by omega) h2
theorem Ok.of {K : Ka} {d j : Nat} {as : List Value} {M : Me} {post : Option Value → Me → Prop} {e : mE} (he : mT[j]? = some e) (h1 : as.length = e.2.2.2.2.1) (h2 : (lg_sl as).length ≤ e.2.2.1) (h3 : rcv e.2.2.2.2.2.1 as M = true) (h : Rn K d e.2.2.2.2.2.2.2.1 0 (lv_args 0 as) [] M (fun r M1 => rok e.2.2.2.1 r = true ∧ post r M1)) : Ok K (d + 1) j as M post := by
  obtain ⟨f, r, M1, hg, hr, hp⟩ := h
  refine ⟨f, r, M1, ?_, hp⟩
  rw [pex, he]
  dsimp only
  rw [if_pos ⟨h1, h2, h3⟩, hg]
  dsimp only
  rw [if_pos hr]
/-- locals as a function: what is known of them -/
abbrev Lf : Type := Nat → Option Value
def isl (o : Option Value) : Bool := match o with
  | some (.long _) => true
  | some (.double _) => true
  | _ => false
def ls1 (L : Lf) (i : Nat) (v : Value) : Lf := fun j => if j = i then some v else if j + 1 = i ∧ isl (L j) = true then none else L j
def ls2 (L : Lf) (i : Nat) (v : Value) : Lf := fun j => if j = i then some v else if j = i + 1 then none else if j + 1 = i ∧ isl (L j) = true then none else L j
def Lin (L : Lf) (lv : Lv) : Prop := ∀ i v, L i = some v → lget lv i = some v
theorem lget_filter {p : Nat × Value → Bool} {j : Nat} {u : Value} : ∀ {lv : Lv}, lget lv j = some u → p (j, u) = true → lget (lv.filter p) j = some u
  | [], h, _ => by cases h
  | q :: r, h, hp => by
    rw [lget] at h
    by_cases e : q.1 = j
    · rw [if_pos e] at h
      cases h
      subst e
      rw [List.filter_cons, if_pos hp, lget, if_pos rfl]
    · rw [if_neg e] at h
      rw [List.filter_cons]
      split
      · rw [lget, if_neg e]; exact lget_filter h hp
      · exact lget_filter h hp
theorem cat_isl {u : Value} (h : isl (some u) = false) : u.category = 1 := by cases u <;> first | rfl | cases h
theorem Lin.set1 {L : Lf} {lv : Lv} (h : Lin L lv) (i : Nat) (v : Value) : Lin (ls1 L i v) (lset1 lv i v) := by
  intro j u hu
  unfold ls1 at hu
  unfold lset1
  rw [lget]
  by_cases e : j = i
  · rw [if_pos e] at hu
    cases hu
    rw [if_pos e.symm]
  · rw [if_neg e] at hu
    rw [if_neg (fun q => e q.symm)]
    split at hu
    · cases hu
    · next hn =>
      refine lget_filter (h j u hu) ?_
      have h1 : (j == i) = false := by simpa using e
      by_cases e2 : j + 1 = i
      · have h2 : isl (L j) = false := by
          cases hb : isl (L j) with
          | false => rfl
          | true => exact absurd ⟨e2, hb⟩ hn
        rw [hu] at h2
        simp [h1, cat_isl h2]
      · have h3 : (j + 1 == i) = false := by simpa using e2
        simp [h1, h3]
theorem Lin.set2 {L : Lf} {lv : Lv} (h : Lin L lv) (i : Nat) (v : Value) : Lin (ls2 L i v) (lset2 lv i v) := by
  intro j u hu
  unfold ls2 at hu
  unfold lset2
  rw [lget]
  by_cases e : j = i
  · rw [if_pos e] at hu
    cases hu
    rw [if_pos e.symm]
  · rw [if_neg e] at hu
    rw [if_neg (fun q => e q.symm)]
    split at hu
    · cases hu
    · next e4 =>
      split at hu
      · cases hu
      · next hn =>
        refine lget_filter (h j u hu) ?_
        have h1 : (j == i) = false := by simpa using e
        have h4 : (j == i + 1) = false := by simpa using e4
        by_cases e2 : j + 1 = i
        · have h2 : isl (L j) = false := by
            cases hb : isl (L j) with
            | false => rfl
            | true => exact absurd ⟨e2, hb⟩ hn
          rw [hu] at h2
          simp [h1, h4, cat_isl h2]
        · have h3 : (j + 1 == i) = false := by simpa using e2
          simp [h1, h3, h4]
/-- a run, with what is known of the locals -/
def Rf (K : Ka) (d : Nat) (code : List Instr) (k : Nat) (L : Lf) (st : List Value) (M : Me) (post : Option Value → Me → Prop) : Prop := ∀ lv : Lv, Lin L lv → Rn K d code k lv st M post
/-- what one instruction asks, and what is left: nx at the next place, jp at another -/
def vst (K : Ka) (d : Nat) (ins : Instr) (L : Lf) (st : List Value) (M : Me) (post : Option Value → Me → Prop) (nx : Lf → List Value → Me → Prop) (jp : Nat → Lf → List Value → Me → Prop) : Prop :=
  match ins, st with
  | .ireturn, [.int v] => post (some (.int v)) M
  | .areturn, [.ref a] => post (some (.ref a)) M
  | .return_, [] => post none M
  | .iconst v, st => nx L (.int (Int32.ofInt v) :: st) M
  | .ldc2_w v, st => nx L (.long (Int64.ofNat v) :: st) M
  | .iload i, st => (match L i with | some (.int x) => nx L (.int x :: st) M | _ => False)
  | .lload i, st => (match L i with | some (.long x) => nx L (.long x :: st) M | _ => False)
  | .aload i, st => (match L i with | some (.ref x) => nx L (.ref x :: st) M | _ => False)
  | .istore i, .int x :: st => nx (ls1 L i (.int x)) (st) M
  | .lstore i, .long x :: st => nx (ls2 L i (.long x)) (st) M
  | .astore i, .ref x :: st => nx (ls1 L i (.ref x)) (st) M
  | .iinc i n, st => (match L i with | some (.int x) => nx (ls1 L i (.int (x + Int32.ofInt n))) (st) M | _ => False)
  | .iadd, .int y :: .int x :: st => nx L (.int (x + y) :: st) M
  | .isub, .int y :: .int x :: st => nx L (.int (x - y) :: st) M
  | .imul, .int y :: .int x :: st => nx L (.int (x * y) :: st) M
  | .iand, .int y :: .int x :: st => nx L (.int (x &&& y) :: st) M
  | .ixor, .int y :: .int x :: st => nx L (.int (x ^^^ y) :: st) M
  | .ishl, .int y :: .int x :: st => nx L (.int (x <<< (y &&& 31)) :: st) M
  | .ishr, .int y :: .int x :: st => nx L (.int (x >>> (y &&& 31)) :: st) M
  | .iushr, .int y :: .int x :: st => nx L (.int ((x.toUInt32 >>> (y.toUInt32 &&& Int32.toUInt32 31)).toInt32) :: st) M
  | .idiv, .int y :: .int x :: st => (¬ y = 0) ∧ nx L (.int (x / y) :: st) M
  | .irem, .int y :: .int x :: st => (¬ y = 0) ∧ nx L (.int (x - x / y * y) :: st) M
  | .fadd, .int y :: .int x :: st => ((st.map fun v => v.category).sum ≤ 8) ∧ nx L (.int (if x < y then y else x) :: st) M
  | .fsub, .int y :: .int x :: st => ((st.map fun v => v.category).sum ≤ 8) ∧ nx L (.int (if y < x then y else x) :: st) M
  | .fmul, .int y :: .int x :: st => (¬ y = 0 ∧ (st.map fun v => v.category).sum ≤ 8) ∧ nx L (.int (if (x ^^^ y) < 0 ∧ ¬ (x - x / y * y) = 0 then (x - x / y * y) + y else (x - x / y * y)) :: st) M
  | .ineg, .int x :: st => nx L (.int (-x) :: st) M
  | .ladd, .long y :: .long x :: st => nx L (.long (x + y) :: st) M
  | .lsub, .long y :: .long x :: st => nx L (.long (x - y) :: st) M
  | .lmul, .long y :: .long x :: st => nx L (.long (x * y) :: st) M
  | .ldiv, .long y :: .long x :: st => (¬ y = 0) ∧ nx L (.long (x / y) :: st) M
  | .lrem, .long y :: .long x :: st => (¬ y = 0) ∧ nx L (.long (x - x / y * y) :: st) M
  | .i2l, .int x :: st => nx L (.long x.toInt64 :: st) M
  | .l2i, .long x :: st => nx L (.int x.toInt32 :: st) M
  | .lcmp, .long y :: .long x :: st => nx L (.int (lg_cmp x y) :: st) M
  | .dup, v :: st => (v.category = 1) ∧ nx L (v :: v :: st) M
  | .dup2, v :: w :: st => (v.category = 1 ∧ w.category = 1) ∧ nx L (v :: w :: v :: w :: st) M
  | .pop, .ref _ :: st => ((st.map fun v => v.category).sum ≤ 8) ∧ nx L (st) M
  | .goto t, st => jp t.toNat L st M
  | .ifCond c t, .int x :: st => (cmpI c x 0 = true → jp t.toNat L st M) ∧ (¬ cmpI c x 0 = true → nx L st M)
  | .if_icmp c t, .int y :: .int x :: st => (cmpI c x y = true → jp t.toNat L st M) ∧ (¬ cmpI c x y = true → nx L st M)
  | .tableswitch d lo hi ts, .int x :: st => ((x.toInt < lo ∨ hi < x.toInt) → jp d.toNat L st M) ∧ (¬ (x.toInt < lo ∨ hi < x.toInt) → ∃ t, ts[(x.toInt - lo).toNat]? = some t ∧ jp t.toNat L st M)
  | .getfield n, .ref a :: st => if n / 100 < 6 ∧ n % 100 < nf (n / 100) then (if fso (n / 100) (n % 100) = 2 then isC M a (n / 100) = true ∧ ∃ b, mR M a (n % 100) = some b ∧ nx L (.ref b :: st) M else isC M a (n / 100) = true ∧ nx L (.int (mI M a (n % 100)) :: st) M) else False
  | .putfield n, .int x :: .ref a :: st => if n / 100 < 6 ∧ n % 100 < nf (n / 100) then (if fso (n / 100) (n % 100) = 0 then isC M a (n / 100) = true ∧ nx L (st) (wI M (u2 (mI M) a (n % 100) x)) else if fso (n / 100) (n % 100) = 1 then (isC M a (n / 100) = true ∧ (x = 0 ∨ x = 1)) ∧ nx L (st) (wI M (u2 (mI M) a (n % 100) x)) else False) else False
  | .putfield n, .ref b :: .ref a :: st => if n / 100 < 6 ∧ n % 100 < nf (n / 100) ∧ fso (n / 100) (n % 100) = 2 then isC M a (n / 100) = true ∧ nx L (st) (wR M (u2 (mR M) a (n % 100) (some b))) else False
  | .getstatic j, st => nx L (.ref j :: st) M
  | .arraylength, .ref a :: st => (a < 5) ∧ nx L (.int (Int32.ofNat (K a).1) :: st) M
  | .iaload, .int j :: .ref a :: st => (a < 5 ∧ inb j (K a).1 = true ∧ nx L (.int ((K a).2 j.toNatClampNeg) :: st) M) ∨ ((isC M a 10 = true ∧ inb j (mH M a).2 = true) ∧ nx L (.int (mI M a j.toNatClampNeg) :: st) M)
  | .baload, .int j :: .ref a :: st => (isC M a 12 = true ∧ inb j (mH M a).2 = true) ∧ nx L (.int (mI M a j.toNatClampNeg) :: st) M
  | .laload, .int j :: .ref a :: st => (isC M a 11 = true ∧ inb j (mH M a).2 = true) ∧ nx L (.long (mJ M a j.toNatClampNeg) :: st) M
  | .aaload, .int j :: .ref a :: st => (isC M a 13 = true ∧ inb j (mH M a).2 = true) ∧ ∃ b, mR M a j.toNatClampNeg = some b ∧ nx L (.ref b :: st) M
  | .iastore, .int x :: .int j :: .ref a :: st => (isC M a 10 = true ∧ inb j (mH M a).2 = true) ∧ nx L (st) (wI M (u2 (mI M) a j.toNatClampNeg x))
  | .bastore, .int x :: .int j :: .ref a :: st => (isC M a 12 = true ∧ inb j (mH M a).2 = true ∧ (x = 0 ∨ x = 1)) ∧ nx L (st) (wI M (u2 (mI M) a j.toNatClampNeg x))
  | .lastore, .long x :: .int j :: .ref a :: st => (isC M a 11 = true ∧ inb j (mH M a).2 = true) ∧ nx L (st) (wJ M (u2 (mJ M) a j.toNatClampNeg x))
  | .invokevirtual j, st => if (nar j ≤ st.length ∧ ((st.drop (nar j)).map fun v => v.category).sum ≤ 8) then Ok K d j ((st.take (nar j)).reverse) M (fun r M1 => nx L (r.toList ++ st.drop (nar j)) M1) else False
  | .invokespecial j, st => if (nar j ≤ st.length ∧ ((st.drop (nar j)).map fun v => v.category).sum ≤ 8) then Ok K d j ((st.take (nar j)).reverse) M (fun r M1 => nx L (r.toList ++ st.drop (nar j)) M1) else False
  | .invokestatic j, st => if (nar j ≤ st.length ∧ ((st.drop (nar j)).map fun v => v.category).sum ≤ 8) then Ok K d j ((st.take (nar j)).reverse) M (fun r M1 => nx L (r.toList ++ st.drop (nar j)) M1) else False
  | _, _ => False
def vcn (K : Ka) (d : Nat) (code : List Instr) (stops : List Nat) (post : Option Value → Me → Prop) : Nat → Nat → List Instr → Lf → List Value → Me → Prop
  | 0, k, _, L, st, M => Rf K d code k L st M post
  | _ + 1, _, [], _, _, _ => False
  | n + 1, k, ins :: cs, L, st, M => vst K d ins L st M post
      (fun L1 st1 M1 => if stops.contains (k + 1) = true then Rf K d code (k + 1) L1 st1 M1 post else vcn K d code stops post n (k + 1) cs L1 st1 M1)
      (fun t L1 st1 M1 => if stops.contains t = true then Rf K d code t L1 st1 M1 post else vcn K d code stops post n t (code.drop t) L1 st1 M1)
theorem vcn_c {K : Ka} {d : Nat} {code : List Instr} {stops : List Nat} {post : Option Value → Me → Prop} {n k : Nat} {ins : Instr} {cs : List Instr} {L : Lf} {st : List Value} {M : Me} : vcn K d code stops post (n + 1) k (ins :: cs) L st M = vst K d ins L st M post
      (fun L1 st1 M1 => if stops.contains (k + 1) = true then Rf K d code (k + 1) L1 st1 M1 post else vcn K d code stops post n (k + 1) cs L1 st1 M1)
      (fun t L1 st1 M1 => if stops.contains t = true then Rf K d code t L1 st1 M1 post else vcn K d code stops post n t (code.drop t) L1 st1 M1) := rfl
set_option maxHeartbeats 4000000 in
theorem vst_ok {K : Ka} {d : Nat} {code : List Instr} {ins : Instr} {k : Nat} {L : Lf} {st : List Value} {M : Me} {post : Option Value → Me → Prop} {nx : Lf → List Value → Me → Prop} {jp : Nat → Lf → List Value → Me → Prop} (hc : code[k]? = some ins)
    (hnx : ∀ L1 st1 M1, nx L1 st1 M1 → Rf K d code (k + 1) L1 st1 M1 post) (hjp : ∀ t L1 st1 M1, jp t L1 st1 M1 → Rf K d code t L1 st1 M1 post) (h : vst K d ins L st M post nx jp) : Rf K d code k L st M post := by
  intro lv hL
  unfold vst at h
  split at h
  · exact Rn.ret hc rfl h
  · exact Rn.ret hc rfl h
  · exact Rn.ret hc rfl h
  · exact Rn.step hc rfl rfl rfl (hnx _ _ _ h _ hL)
  · exact Rn.step hc rfl rfl rfl (hnx _ _ _ h _ hL)
  · split at h
    · next hx => exact Rn.step hc rfl rfl (pst_iload' (hL _ _ hx)) (hnx _ _ _ h lv hL)
    · exact absurd h (fun q => q)
  · split at h
    · next hx => exact Rn.step hc rfl rfl (pst_lload' (hL _ _ hx)) (hnx _ _ _ h lv hL)
    · exact absurd h (fun q => q)
  · split at h
    · next hx => exact Rn.step hc rfl rfl (pst_aload' (hL _ _ hx)) (hnx _ _ _ h lv hL)
    · exact absurd h (fun q => q)
  · exact Rn.step hc rfl rfl rfl (hnx _ _ _ h _ (hL.set1 _ _))
  · exact Rn.step hc rfl rfl rfl (hnx _ _ _ h _ (hL.set2 _ _))
  · exact Rn.step hc rfl rfl rfl (hnx _ _ _ h _ (hL.set1 _ _))
  · split at h
    · next hx => exact Rn.step hc rfl rfl (pst_iinc' (hL _ _ hx)) (hnx _ _ _ h _ (hL.set1 _ _))
    · exact absurd h (fun q => q)
  · exact Rn.step hc rfl rfl rfl (hnx _ _ _ h _ hL)
  · exact Rn.step hc rfl rfl rfl (hnx _ _ _ h _ hL)
  · exact Rn.step hc rfl rfl rfl (hnx _ _ _ h _ hL)
  · exact Rn.step hc rfl rfl rfl (hnx _ _ _ h _ hL)
  · exact Rn.step hc rfl rfl rfl (hnx _ _ _ h _ hL)
  · exact Rn.step hc rfl rfl rfl (hnx _ _ _ h _ hL)
  · exact Rn.step hc rfl rfl rfl (hnx _ _ _ h _ hL)
  · exact Rn.step hc rfl rfl rfl (hnx _ _ _ h _ hL)
  · exact Rn.step hc rfl rfl (if_neg h.1) (hnx _ _ _ h.2 _ hL)
  · exact Rn.step hc rfl rfl (if_neg h.1) (hnx _ _ _ h.2 _ hL)
  · exact Rn.step hc rfl rfl (if_pos h.1) (hnx _ _ _ h.2 _ hL)
  · exact Rn.step hc rfl rfl (if_pos h.1) (hnx _ _ _ h.2 _ hL)
  · exact Rn.step hc rfl rfl (if_neg (fun q => q.elim h.1.1 (fun q => absurd h.1.2 (Nat.not_le.mpr q)))) (hnx _ _ _ h.2 _ hL)
  · exact Rn.step hc rfl rfl rfl (hnx _ _ _ h _ hL)
  · exact Rn.step hc rfl rfl rfl (hnx _ _ _ h _ hL)
  · exact Rn.step hc rfl rfl rfl (hnx _ _ _ h _ hL)
  · exact Rn.step hc rfl rfl rfl (hnx _ _ _ h _ hL)
  · exact Rn.step hc rfl rfl (if_neg h.1) (hnx _ _ _ h.2 _ hL)
  · exact Rn.step hc rfl rfl (if_neg h.1) (hnx _ _ _ h.2 _ hL)
  · exact Rn.step hc rfl rfl rfl (hnx _ _ _ h _ hL)
  · exact Rn.step hc rfl rfl rfl (hnx _ _ _ h _ hL)
  · exact Rn.step hc rfl rfl rfl (hnx _ _ _ h _ hL)
  · exact Rn.step hc rfl rfl (if_pos h.1) (hnx _ _ _ h.2 _ hL)
  · exact Rn.step hc rfl rfl (if_pos h.1) (hnx _ _ _ h.2 _ hL)
  · exact Rn.step hc rfl rfl (if_pos h.1) (hnx _ _ _ h.2 _ hL)
  · exact Rn.step hc rfl rfl rfl (hjp _ _ _ _ h _ hL)
  · next c t x st =>
    by_cases hb : cmpI c x 0 = true
    · exact Rn.step hc rfl rfl (congrArg some (Prod.ext (if_pos hb) rfl)) (hjp _ _ _ _ (h.1 hb) _ hL)
    · exact Rn.step hc rfl rfl (congrArg some (Prod.ext (if_neg hb) rfl)) (hnx _ _ _ (h.2 hb) _ hL)
  · next c t y x st =>
    by_cases hb : cmpI c x y = true
    · exact Rn.step hc rfl rfl (congrArg some (Prod.ext (if_pos hb) rfl)) (hjp _ _ _ _ (h.1 hb) _ hL)
    · exact Rn.step hc rfl rfl (congrArg some (Prod.ext (if_neg hb) rfl)) (hnx _ _ _ (h.2 hb) _ hL)
  · next d lo hi ts x st =>
    by_cases hb : x.toInt < lo ∨ hi < x.toInt
    · exact Rn.step hc rfl rfl (if_pos hb) (hjp _ _ _ _ (h.1 hb) _ hL)
    · obtain ⟨t, ht, h⟩ := h.2 hb
      refine Rn.step hc rfl rfl ((if_neg hb).trans ?_) (hjp _ _ _ _ h _ hL)
      rw [ht]
  · next n a st =>
    split at h
    · next hq =>
      split at h
      · next h2 =>
        obtain ⟨h3, b, hb, h⟩ := h
        refine Rn.step hc rfl rfl ((if_pos ⟨h3, hq⟩).trans ?_) (hnx _ _ _ h _ hL)
        unfold fval
        rw [if_pos h2, hb]
        rfl
      · next h2 =>
        refine Rn.step hc rfl rfl ((if_pos ⟨h.1, hq⟩).trans ?_) (hnx _ _ _ h.2 _ hL)
        unfold fval
        rw [if_neg h2]
    · exact absurd h (fun q => q)
  · split at h
    · next hq =>
      split at h
      · next h2 => exact Rn.step hc rfl rfl ((if_pos ⟨h.1, hq⟩).trans (if_pos (Or.inl h2))) (hnx _ _ _ h.2 _ hL)
      · split at h
        · next h2 => exact Rn.step hc rfl rfl ((if_pos ⟨h.1.1, hq⟩).trans (if_pos (Or.inr ⟨h2, h.1.2⟩))) (hnx _ _ _ h.2 _ hL)
        · exact absurd h (fun q => q)
    · exact absurd h (fun q => q)
  · split at h
    · next hq => exact Rn.step hc rfl rfl ((if_pos ⟨h.1, hq.1, hq.2.1⟩).trans (if_pos hq.2.2)) (hnx _ _ _ h.2 _ hL)
    · exact absurd h (fun q => q)
  · exact Rn.step hc rfl rfl rfl (hnx _ _ _ h _ hL)
  · exact Rn.step hc rfl rfl (if_pos h.1) (hnx _ _ _ h.2 _ hL)
  · next j a st =>
    rcases h with ⟨h1, h2, h⟩ | ⟨h1, h⟩
    · exact Rn.step hc rfl rfl ((if_pos h1).trans (if_pos h2)) (hnx _ _ _ h _ hL)
    · exact Rn.step hc rfl rfl ((if_neg (fun q : a < 5 => absurd (Nat.lt_of_lt_of_le q (by decide)) (Nat.not_lt.mpr (isC_iff h1.1).1))).trans (if_pos h1)) (hnx _ _ _ h _ hL)
  · exact Rn.step hc rfl rfl (if_pos h.1) (hnx _ _ _ h.2 _ hL)
  · exact Rn.step hc rfl rfl (if_pos h.1) (hnx _ _ _ h.2 _ hL)
  · obtain ⟨h1, b, hb, h⟩ := h
    refine Rn.step hc rfl rfl ((if_pos h1).trans ?_) (hnx _ _ _ h _ hL)
    rw [hb]
    rfl
  · exact Rn.step hc rfl rfl (if_pos h.1) (hnx _ _ _ h.2 _ hL)
  · exact Rn.step hc rfl rfl (if_pos h.1) (hnx _ _ _ h.2 _ hL)
  · exact Rn.step hc rfl rfl (if_pos h.1) (hnx _ _ _ h.2 _ hL)
  · split at h
    · next hq => exact Rn.call hc rfl hq (h.up (Nat.le_refl _) (fun r M1 h => hnx _ _ _ h _ hL))
    · exact absurd h (fun q => q)
  · split at h
    · next hq => exact Rn.call hc rfl hq (h.up (Nat.le_refl _) (fun r M1 h => hnx _ _ _ h _ hL))
    · exact absurd h (fun q => q)
  · split at h
    · next hq => exact Rn.call hc rfl hq (h.up (Nat.le_refl _) (fun r M1 h => hnx _ _ _ h _ hL))
    · exact absurd h (fun q => q)
  · exact absurd h (fun q => q)
theorem vcn_ok {K : Ka} {d : Nat} {code : List Instr} {stops : List Nat} {post : Option Value → Me → Prop} : ∀ (n k : Nat) (cs : List Instr) (L : Lf) (st : List Value) (M : Me), cs = code.drop k → vcn K d code stops post n k cs L st M → Rf K d code k L st M post
  | 0, _, _, _, _, _, _, h => h
  | _ + 1, _, [], _, _, _, _, h => absurd h (fun q => q)
  | n + 1, k, ins :: cs, L, st, M, he, h => by
    have hc : code[k]? = some ins := by
      have := congrArg (fun l : List Instr => l[0]?) he
      simp only [List.getElem?_cons_zero, List.getElem?_drop, Nat.add_zero] at this
      exact this.symm
    have hd : cs = code.drop (k + 1) := by
      have := congrArg (fun l : List Instr => l.drop 1) he
      simpa [List.drop_drop] using this
    refine vst_ok hc (fun L1 st1 M1 h => ?_) (fun t L1 st1 M1 h => ?_) h
    · split at h
      · exact h
      · exact vcn_ok n (k + 1) cs L1 st1 M1 hd h
    · split at h
      · exact h
      · exact vcn_ok n t _ L1 st1 M1 rfl h
/-- symbolic execution from place k on, up to the stops -/
theorem Rf.go (n : Nat) (stops : List Nat) {K : Ka} {d : Nat} {code : List Instr} {k : Nat} {L : Lf} {st : List Value} {M : Me} {post : Option Value → Me → Prop} (h : vcn K d code stops post n k (code.drop k) L st M) : Rf K d code k L st M post := vcn_ok n k _ L st M rfl h
/-- the locals at the entry -/
def lf0 : Nat → List Value → Lf
  | _, [] => fun _ => none
  | i, v :: vs => fun j => if j = i then some v else lf0 (if v.category = 2 then i + 2 else i + 1) vs j
theorem lf0_in : ∀ (i : Nat) (vs : List Value), Lin (lf0 i vs) (lv_args i vs)
  | _, [] => fun j v h => by cases h
  | i, w :: vs => fun j v h => by
    have h : (if j = i then some w else lf0 (if w.category = 2 then i + 2 else i + 1) vs j) = some v := h
    rw [lv_args, lget]
    by_cases e : j = i
    · rw [if_pos e] at h
      rw [if_pos e.symm]
      exact h
    · rw [if_neg e] at h
      rw [if_neg (fun q => e q.symm)]
      exact lf0_in _ vs j v h
/-- the locals that are known, as a list -/
def lk : List (Nat × Value) → Lf
  | [] => fun _ => none
  | q :: r => fun j => if j = q.1 then some q.2 else lk r j
def lkOk (L : Lf) : List (Nat × Value) → Prop
  | [] => True
  | q :: r => L q.1 = some q.2 ∧ lkOk L r
theorem lk_in {L : Lf} : ∀ {l : List (Nat × Value)}, lkOk L l → ∀ i v, lk l i = some v → L i = some v
  | [], _, _, _, h => by cases h
  | q :: r, hk, i, v, h => by
    have h : (if i = q.1 then some q.2 else lk r i) = some v := h
    by_cases e : i = q.1
    · rw [if_pos e] at h
      rw [e, hk.1]
      exact h
    · rw [if_neg e] at h
      exact lk_in hk.2 i v h
theorem Rf.weak (l : List (Nat × Value)) {K : Ka} {d : Nat} {code : List Instr} {k : Nat} {L : Lf} {st : List Value} {M : Me} {post : Option Value → Me → Prop} (hk : lkOk L l) (h : Rf K d code k (lk l) st M post) : Rf K d code k L st M post := fun lv hL => h lv (fun i v hi => hL i v (lk_in hk i v hi))
theorem Ok.go {K : Ka} {d j : Nat} {as : List Value} {M : Me} {post : Option Value → Me → Prop} {e : mE} (he : mT[j]? = some e) (h1 : as.length = e.2.2.2.2.1) (h2 : (lg_sl as).length ≤ e.2.2.1) (h3 : rcv e.2.2.2.2.2.1 as M = true) (h : Rf K d e.2.2.2.2.2.2.2.1 0 (lf0 0 as) [] M (fun r M1 => rok e.2.2.2.1 r = true ∧ post r M1)) : Ok K (d + 1) j as M post := Ok.of he h1 h2 h3 (h _ (lf0_in 0 as))
