/-! LEVEL 1: the memory as its shape and its numbers; loops that write a row -/
def St (M : Me) (I : Nat → Nat → Int32) (J : Nat → Nat → Int64) : Me := (M.1, M.2.1, M.2.2.1, I, J, M.2.2.2.2.2)
/-- a row: an int array of 8 -/
def rc (M : Me) (a : Nat) : Prop := isC M a 10 = true ∧ (mH M a).2 = 8
/-- the first i places of row a are g's -/
def rw8 (I : Nat → Nat → Int32) (a i : Nat) (g : Nat → Int32) : Nat → Nat → Int32 := fun b => if b = a then (fun j => if j < i then g j else I a j) else I b
theorem rw8_0 (I : Nat → Nat → Int32) (a : Nat) (g : Nat → Int32) : rw8 I a 0 g = I := by
  funext b
  unfold rw8
  by_cases h : b = a
  · subst h
    rw [if_pos rfl]
    funext j
    rw [if_neg (Nat.not_lt_zero j)]
  · rw [if_neg h]
theorem rw8_ne {I : Nat → Nat → Int32} {a b i : Nat} {g : Nat → Int32} (h : b ≠ a) : rw8 I a i g b = I b := if_neg h
theorem rw8_eq {I : Nat → Nat → Int32} {a i j : Nat} {g : Nat → Int32} (h : j < i) : rw8 I a i g a j = g j := by
  unfold rw8; rw [if_pos rfl, if_pos h]
theorem rw8_cur {I : Nat → Nat → Int32} {a b i j : Nat} {g : Nat → Int32} (h : i ≤ j) : rw8 I a i g b j = I b j := by
  unfold rw8
  by_cases e : b = a
  · subst e; rw [if_pos rfl, if_neg (by omega)]
  · rw [if_neg e]
theorem rw8_step {I : Nat → Nat → Int32} {a i : Nat} {g : Nat → Int32} {v : Int32} (hv : v = g i) (hi : i < 2 ^ 31) : u2 (rw8 I a i g) a (nI i).toNatClampNeg v = rw8 I a (i + 1) g := by
  subst hv
  rw [nI_clamp hi]
  funext b
  unfold u2 rw8
  by_cases e : b = a
  · subst e
    simp only [if_true]
    funext j
    unfold va_up
    by_cases h1 : j = i
    · subst h1; rw [if_pos rfl, if_pos (Nat.lt_succ_self j)]
    · rw [if_neg h1]
      show (if j < i then g j else I b j) = if j < i + 1 then g j else I b j
      by_cases h2 : j < i
      · rw [if_pos h2, if_pos (by omega)]
      · rw [if_neg h2, if_neg (by omega)]
  · rw [if_neg e, if_neg e, if_neg e]
theorem for_up {P : Nat → Prop} (n : Nat) (h0 : P n) (hs : ∀ i, i < n → P (i + 1) → P i) : ∀ i, i ≤ n → P i := by
  intro i hi
  obtain ⟨k, rfl⟩ : ∃ k, n = i + k := ⟨n - i, by omega⟩
  clear hi
  induction k generalizing i with
  | zero => exact h0
  | succ k ih => exact hs i (by omega) (ih (i + 1) (by rw [show i + 1 + k = i + (k + 1) by omega]; exact h0) (by rw [show i + 1 + k = i + (k + 1) by omega]; exact hs))
theorem rc_in {M : Me} {a i : Nat} (h : rc M a) (hi : i < 8) : inb (nI i) (mH M a).2 = true := by
  rw [h.2]
  unfold inb
  have h1 : ¬ nI i < 0 := nI_pos (by omega)
  rw [nI_clamp (by omega)]
  simp [h1]
  omega
theorem ge8 {i : Nat} (hi : i < 8) (h : cmpI .ge (nI i) (Int32.ofInt 8) = true) : False := by
  have h1 : nI 8 ≤ nI i := of_decide_eq_true h
  have := (nI_leI (by omega) (by omega)).mp h1
  omega
theorem ge8n (h : ¬ cmpI .ge (nI 8) (Int32.ofInt 8) = true) : False := h (by decide)
theorem inc1 (i : Nat) : some (Value.int (nI i + Int32.ofInt 1)) = some (Value.int (nI (i + 1))) := congrArg (fun z => some (Value.int z)) (nI_1 i)
theorem tag_ne {M : Me} {a b s t : Nat} (h1 : isC M a s = true) (h2 : isC M b t = true) (hst : s ≠ t) : a ≠ b := fun e => by
  subst e
  exact hst ((isC_iff h1).2.2.symm.trans (isC_iff h2).2.2)
set_option maxHeartbeats 1000000 in
theorem t_copy {K : Ka} {d T x out : Nat} {M : Me} {I : Nat → Nat → Int32} {J : Nat → Nat → Int64} (hT : isC M T 3 = true) (hx : rc M x) (ho : rc M out) : Ok K (d + 1) 48 [.ref T, .ref x, .ref out] (St M I J) (fun r M1 => r = none ∧ M1 = St M (rw8 I out 8 (I x)) J) := by
  refine Ok.go (e := me_48) rfl rfl (Nat.le_of_ble_eq_true rfl) hT ?_
  refine Rf.go 100 [2] ?_
  refine Rf.weak [(3, .int (nI 0)), (0, .ref T), (1, .ref x), (2, .ref out)] ⟨rfl, rfl, rfl, rfl, trivial⟩ ?_
  have key : ∀ i, i ≤ 8 → Rf K d mc_48 2 (lk [(3, .int (nI i)), (0, .ref T), (1, .ref x), (2, .ref out)]) [] (St M (rw8 I out i (I x)) J) (fun r M1 => rok me_48.2.2.2.1 r = true ∧ r = none ∧ M1 = St M (rw8 I out 8 (I x)) J) := by
    refine for_up 8 ?_ (fun i hi ih => ?_)
    · refine Rf.go 100 [2] ?_
      refine And.intro (fun _ => ⟨rfl, rfl, rfl⟩) (fun hb => (ge8n hb).elim)
    · refine Rf.go 100 [2] ?_
      refine And.intro (fun hb => (ge8 hi hb).elim) (fun _ => ?_)
      refine Or.inr (And.intro ⟨hx.1, rc_in hx hi⟩ ?_)
      refine And.intro ⟨ho.1, rc_in ho hi⟩ ?_
      refine Rf.weak [(3, .int (nI (i + 1))), (0, .ref T), (1, .ref x), (2, .ref out)] ⟨inc1 i, rfl, rfl, rfl, trivial⟩ ?_
      have e := rw8_step (I := I) (a := out) (i := i) (g := I x) (v := rw8 I out i (I x) x (nI i).toNatClampNeg) (by rw [nI_clamp (by omega), rw8_cur (Nat.le_refl i)]) (by omega)
      rw [← e] at ih
      exact ih
  have := key 0 (by omega)
  rw [rw8_0] at this
  exact this
set_option maxHeartbeats 1000000 in
theorem t_add {K : Ka} {d T x y out : Nat} {M : Me} {I : Nat → Nat → Int32} {J : Nat → Nat → Int64} (hT : isC M T 3 = true) (hx : rc M x) (hy : rc M y) (ho : rc M out) : Ok K (d + 1) 54 [.ref T, .ref x, .ref y, .ref out] (St M I J) (fun r M1 => r = none ∧ M1 = St M (rw8 I out 8 (fun j => if I x j + I y j < I T 0 then I x j + I y j else I x j + I y j - I T 0)) J) := by
  refine Ok.go (e := me_54) rfl rfl (Nat.le_of_ble_eq_true rfl) hT ?_
  generalize hg : (fun j => if I x j + I y j < I T 0 then I x j + I y j else I x j + I y j - I T 0) = g
  have hTo : T ≠ out := tag_ne hT ho.1 (by decide)
  refine Rf.go 100 [2] ?_
  refine Rf.weak [(4, .int (nI 0)), (0, .ref T), (1, .ref x), (2, .ref y), (3, .ref out)] ⟨rfl, rfl, rfl, rfl, rfl, trivial⟩ ?_
  have key : ∀ i, i ≤ 8 → Rf K d mc_54 2 (lk [(4, .int (nI i)), (0, .ref T), (1, .ref x), (2, .ref y), (3, .ref out)]) [] (St M (rw8 I out i g) J) (fun r M1 => rok me_54.2.2.2.1 r = true ∧ r = none ∧ M1 = St M (rw8 I out 8 g) J) := by
    refine for_up 8 ?_ (fun i hi ih => ?_)
    · refine Rf.go 100 [2] ?_
      refine And.intro (fun _ => ⟨rfl, rfl, rfl⟩) (fun hb => (ge8n hb).elim)
    · have hcl : (nI i).toNatClampNeg = i := nI_clamp (by omega)
      have hs : rw8 I out i g x (nI i).toNatClampNeg + rw8 I out i g y (nI i).toNatClampNeg = I x i + I y i := by rw [hcl, rw8_cur (Nat.le_refl i), rw8_cur (Nat.le_refl i)]
      have hp : rw8 I out i g T 0 = I T 0 := by rw [rw8_ne hTo]
      refine Rf.go 100 [2] ?_
      refine And.intro (fun hb => (ge8 hi hb).elim) (fun _ => ?_)
      refine Or.inr (And.intro ⟨hx.1, rc_in hx hi⟩ ?_)
      refine Or.inr (And.intro ⟨hy.1, rc_in hy hi⟩ ?_)
      refine And.intro hT ?_
      refine And.intro (fun hb => ?_) (fun hb => ?_)
      · refine And.intro ⟨ho.1, rc_in ho hi⟩ ?_
        refine Rf.weak [(4, .int (nI (i + 1))), (0, .ref T), (1, .ref x), (2, .ref y), (3, .ref out)] ⟨inc1 i, rfl, rfl, rfl, rfl, trivial⟩ ?_
        have hb : rw8 I out i g x (nI i).toNatClampNeg + rw8 I out i g y (nI i).toNatClampNeg < rw8 I out i g T 0 := of_decide_eq_true hb
        have e := rw8_step (I := I) (a := out) (i := i) (g := g) (v := rw8 I out i g x (nI i).toNatClampNeg + rw8 I out i g y (nI i).toNatClampNeg) (by rw [hs, hp] at hb; rw [hs, ← hg]; exact (if_pos hb).symm) (by omega)
        rw [← e] at ih
        exact ih
      · refine And.intro hT ?_
        refine And.intro ⟨ho.1, rc_in ho hi⟩ ?_
        refine Rf.weak [(4, .int (nI (i + 1))), (0, .ref T), (1, .ref x), (2, .ref y), (3, .ref out)] ⟨inc1 i, rfl, rfl, rfl, rfl, trivial⟩ ?_
        have hb : ¬ rw8 I out i g x (nI i).toNatClampNeg + rw8 I out i g y (nI i).toNatClampNeg < rw8 I out i g T 0 := fun q => hb (decide_eq_true q)
        have e := rw8_step (I := I) (a := out) (i := i) (g := g) (v := rw8 I out i g x (nI i).toNatClampNeg + rw8 I out i g y (nI i).toNatClampNeg - rw8 I out i g T 0) (by rw [hs, hp] at hb; rw [hs, hp, ← hg]; exact (if_neg hb).symm) (by omega)
        rw [← e] at ih
        exact ih
  have := key 0 (by omega)
  rw [rw8_0] at this
  exact this
