theorem Rf.rwS {K : Ka} {d : Nat} {code : List Instr} {k : Nat} {L : Lf} {M : Me} {I : Nat → Nat → Int32} {J : Nat → Nat → Int64} {a i : Nat} {g : Nat → Int32} {v : Int32} {post : Option Value → Me → Prop} (hv : v = g i) (hi : i < 2 ^ 31) (ih : Rf K d code k L [] (St M (rw8 I a (i + 1) g) J) post) : Rf K d code k L [] (wI (St M (rw8 I a i g) J) (u2 (mI (St M (rw8 I a i g) J)) a (nI i).toNatClampNeg v)) post := by
  have e := rw8_step (I := I) (a := a) (i := i) (g := g) (v := v) hv hi
  rw [← e] at ih
  exact ih
set_option maxHeartbeats 1000000 in
theorem t_sub {K : Ka} {d T x y out : Nat} {M : Me} {I : Nat → Nat → Int32} {J : Nat → Nat → Int64} (hT : isC M T 3 = true) (hx : rc M x) (hy : rc M y) (ho : rc M out) : Ok K (d + 1) 55 [.ref T, .ref x, .ref y, .ref out] (St M I J) (fun r M1 => r = none ∧ M1 = St M (rw8 I out 8 (fun j => if Int32.ofInt 0 ≤ I x j - I y j then I x j - I y j else I x j - I y j + I T 0)) J) := by
  refine Ok.go (e := me_55) rfl rfl (Nat.le_of_ble_eq_true rfl) hT ?_
  generalize hg : (fun j => if Int32.ofInt 0 ≤ I x j - I y j then I x j - I y j else I x j - I y j + I T 0) = g
  have hTo : T ≠ out := tag_ne hT ho.1 (by decide)
  refine Rf.go 100 [2] ?_
  refine Rf.weak [(4, .int (nI 0)), (0, .ref T), (1, .ref x), (2, .ref y), (3, .ref out)] ⟨rfl, rfl, rfl, rfl, rfl, trivial⟩ ?_
  have key : ∀ i, i ≤ 8 → Rf K d mc_55 2 (lk [(4, .int (nI i)), (0, .ref T), (1, .ref x), (2, .ref y), (3, .ref out)]) [] (St M (rw8 I out i g) J) (fun r M1 => rok me_55.2.2.2.1 r = true ∧ r = none ∧ M1 = St M (rw8 I out 8 g) J) := by
    refine for_up 8 ?_ (fun i hi ih => ?_)
    · refine Rf.go 100 [2] ?_
      refine And.intro (fun _ => ⟨rfl, rfl, rfl⟩) (fun hb => (ge8n hb).elim)
    · have hcl : (nI i).toNatClampNeg = i := nI_clamp (by omega)
      refine Rf.go 100 [2] ?_
      refine And.intro (fun hb => (ge8 hi hb).elim) (fun _ => ?_)
      refine Or.inr (And.intro ⟨hx.1, rc_in hx hi⟩ ?_)
      refine Or.inr (And.intro ⟨hy.1, rc_in hy hi⟩ ?_)
      refine And.intro (fun hb => ?_) (fun hb => ?_)
      · refine And.intro ⟨ho.1, rc_in ho hi⟩ ?_
        refine Rf.weak [(4, .int (nI (i + 1))), (0, .ref T), (1, .ref x), (2, .ref y), (3, .ref out)] ⟨inc1 i, rfl, rfl, rfl, rfl, trivial⟩ (Rf.rwS ?_ (by omega) ih)
        simp only [mI, St, cmpI, decide_eq_true_eq, hcl, rw8_cur (Nat.le_refl i), rw8_ne hTo] at hb ⊢
        rw [← hg]
        exact (if_pos hb).symm
      · refine And.intro hT ?_
        refine And.intro ⟨ho.1, rc_in ho hi⟩ ?_
        refine Rf.weak [(4, .int (nI (i + 1))), (0, .ref T), (1, .ref x), (2, .ref y), (3, .ref out)] ⟨inc1 i, rfl, rfl, rfl, rfl, trivial⟩ (Rf.rwS ?_ (by omega) ih)
        simp only [mI, St, cmpI, decide_eq_true_eq, hcl, rw8_cur (Nat.le_refl i), rw8_ne hTo] at hb ⊢
        rw [← hg]
        exact (if_neg hb).symm
  have := key 0 (by omega)
  rw [rw8_0] at this
  exact this
set_option maxHeartbeats 1000000 in
theorem t_neg {K : Ka} {d T x out : Nat} {M : Me} {I : Nat → Nat → Int32} {J : Nat → Nat → Int64} (hT : isC M T 3 = true) (hx : rc M x) (ho : rc M out) : Ok K (d + 1) 56 [.ref T, .ref x, .ref out] (St M I J) (fun r M1 => r = none ∧ M1 = St M (rw8 I out 8 (fun j => if I x j = 0 then Int32.ofInt 0 else I T 0 - I x j)) J) := by
  refine Ok.go (e := me_56) rfl rfl (Nat.le_of_ble_eq_true rfl) hT ?_
  generalize hg : (fun j => if I x j = 0 then Int32.ofInt 0 else I T 0 - I x j) = g
  have hTo : T ≠ out := tag_ne hT ho.1 (by decide)
  refine Rf.go 100 [2] ?_
  refine Rf.weak [(3, .int (nI 0)), (0, .ref T), (1, .ref x), (2, .ref out)] ⟨rfl, rfl, rfl, rfl, trivial⟩ ?_
  have key : ∀ i, i ≤ 8 → Rf K d mc_56 2 (lk [(3, .int (nI i)), (0, .ref T), (1, .ref x), (2, .ref out)]) [] (St M (rw8 I out i g) J) (fun r M1 => rok me_56.2.2.2.1 r = true ∧ r = none ∧ M1 = St M (rw8 I out 8 g) J) := by
    refine for_up 8 ?_ (fun i hi ih => ?_)
    · refine Rf.go 100 [2] ?_
      refine And.intro (fun _ => ⟨rfl, rfl, rfl⟩) (fun hb => (ge8n hb).elim)
    · have hcl : (nI i).toNatClampNeg = i := nI_clamp (by omega)
      refine Rf.go 100 [2] ?_
      refine And.intro (fun hb => (ge8 hi hb).elim) (fun _ => ?_)
      refine Or.inr (And.intro ⟨hx.1, rc_in hx hi⟩ ?_)
      refine And.intro (fun hb => ?_) (fun hb => ?_)
      · refine And.intro hT ?_
        refine Or.inr (And.intro ⟨hx.1, rc_in hx hi⟩ ?_)
        refine And.intro ⟨ho.1, rc_in ho hi⟩ ?_
        refine Rf.weak [(3, .int (nI (i + 1))), (0, .ref T), (1, .ref x), (2, .ref out)] ⟨inc1 i, rfl, rfl, rfl, trivial⟩ (Rf.rwS ?_ (by omega) ih)
        simp only [mI, St, cmpI, decide_eq_true_eq, hcl, rw8_cur (Nat.le_refl i), rw8_ne hTo] at hb ⊢
        rw [← hg]
        exact (if_neg hb).symm
      · refine And.intro ⟨ho.1, rc_in ho hi⟩ ?_
        refine Rf.weak [(3, .int (nI (i + 1))), (0, .ref T), (1, .ref x), (2, .ref out)] ⟨inc1 i, rfl, rfl, rfl, trivial⟩ (Rf.rwS ?_ (by omega) ih)
        simp only [mI, St, cmpI, decide_eq_true_eq, hcl, rw8_cur (Nat.le_refl i), rw8_ne hTo] at hb ⊢
        rw [← hg]
        exact (if_pos (Classical.not_not.mp hb)).symm
  have := key 0 (by omega)
  rw [rw8_0] at this
  exact this
set_option maxHeartbeats 1000000 in
theorem t_scale {K : Ka} {d T x out : Nat} {M : Me} {c : Int32} {I : Nat → Nat → Int32} {J : Nat → Nat → Int64} (hT : isC M T 3 = true) (hx : rc M x) (ho : rc M out) (hp0 : ¬ I T 0 = 0) : Ok K (d + 1) 57 [.ref T, .ref x, .int c, .ref out] (St M I J) (fun r M1 => r = none ∧ M1 = St M (rw8 I out 8 (fun j => I x j * c - I x j * c / I T 0 * I T 0)) J) := by
  refine Ok.go (e := me_57) rfl rfl (Nat.le_of_ble_eq_true rfl) hT ?_
  generalize hg : (fun j => I x j * c - I x j * c / I T 0 * I T 0) = g
  have hTo : T ≠ out := tag_ne hT ho.1 (by decide)
  refine Rf.go 100 [2] ?_
  refine Rf.weak [(4, .int (nI 0)), (0, .ref T), (1, .ref x), (2, .int c), (3, .ref out)] ⟨rfl, rfl, rfl, rfl, rfl, trivial⟩ ?_
  have key : ∀ i, i ≤ 8 → Rf K d mc_57 2 (lk [(4, .int (nI i)), (0, .ref T), (1, .ref x), (2, .int c), (3, .ref out)]) [] (St M (rw8 I out i g) J) (fun r M1 => rok me_57.2.2.2.1 r = true ∧ r = none ∧ M1 = St M (rw8 I out 8 g) J) := by
    refine for_up 8 ?_ (fun i hi ih => ?_)
    · refine Rf.go 100 [2] ?_
      refine And.intro (fun _ => ⟨rfl, rfl, rfl⟩) (fun hb => (ge8n hb).elim)
    · have hcl : (nI i).toNatClampNeg = i := nI_clamp (by omega)
      refine Rf.go 100 [2] ?_
      refine And.intro (fun hb => (ge8 hi hb).elim) (fun _ => ?_)
      refine Or.inr (And.intro ⟨hx.1, rc_in hx hi⟩ ?_)
      refine And.intro hT ?_
      refine And.intro (by simp only [mI, St, rw8_ne hTo]; exact hp0) ?_
      refine And.intro ⟨ho.1, rc_in ho hi⟩ ?_
      refine Rf.weak [(4, .int (nI (i + 1))), (0, .ref T), (1, .ref x), (2, .int c), (3, .ref out)] ⟨inc1 i, rfl, rfl, rfl, rfl, trivial⟩ (Rf.rwS ?_ (by omega) ih)
      simp only [mI, St, cmpI, decide_eq_true_eq, hcl, rw8_cur (Nat.le_refl i), rw8_ne hTo]
      rw [← hg]
  have := key 0 (by omega)
  rw [rw8_0] at this
  exact this
set_option maxHeartbeats 1000000 in
theorem t_unit {K : Ka} {d T out : Nat} {M : Me} {c : Int32} {I : Nat → Nat → Int32} {J : Nat → Nat → Int64} (hT : isC M T 3 = true) (ho : rc M out) : Ok K (d + 1) 47 [.ref T, .int c, .ref out] (St M I J) (fun r M1 => r = none ∧ M1 = St M (rw8 I out 8 (fun j => if nI j = c then Int32.ofInt 1 else Int32.ofInt 0)) J) := by
  refine Ok.go (e := me_47) rfl rfl (Nat.le_of_ble_eq_true rfl) hT ?_
  generalize hg : (fun j => if nI j = c then Int32.ofInt 1 else Int32.ofInt 0) = g
  have hTo : T ≠ out := tag_ne hT ho.1 (by decide)
  refine Rf.go 100 [2] ?_
  refine Rf.weak [(3, .int (nI 0)), (0, .ref T), (1, .int c), (2, .ref out)] ⟨rfl, rfl, rfl, rfl, trivial⟩ ?_
  have key : ∀ i, i ≤ 8 → Rf K d mc_47 2 (lk [(3, .int (nI i)), (0, .ref T), (1, .int c), (2, .ref out)]) [] (St M (rw8 I out i g) J) (fun r M1 => rok me_47.2.2.2.1 r = true ∧ r = none ∧ M1 = St M (rw8 I out 8 g) J) := by
    refine for_up 8 ?_ (fun i hi ih => ?_)
    · refine Rf.go 100 [2] ?_
      refine And.intro (fun _ => ⟨rfl, rfl, rfl⟩) (fun hb => (ge8n hb).elim)
    · have hcl : (nI i).toNatClampNeg = i := nI_clamp (by omega)
      refine Rf.go 100 [2] ?_
      refine And.intro (fun hb => (ge8 hi hb).elim) (fun _ => ?_)
      refine And.intro (fun hb => ?_) (fun hb => ?_)
      · refine And.intro ⟨ho.1, rc_in ho hi⟩ ?_
        refine Rf.weak [(3, .int (nI (i + 1))), (0, .ref T), (1, .int c), (2, .ref out)] ⟨inc1 i, rfl, rfl, rfl, trivial⟩ (Rf.rwS ?_ (by omega) ih)
        simp only [mI, St, cmpI, decide_eq_true_eq, hcl, rw8_cur (Nat.le_refl i), rw8_ne hTo] at hb ⊢
        rw [← hg]
        exact (if_neg hb).symm
      · refine And.intro ⟨ho.1, rc_in ho hi⟩ ?_
        refine Rf.weak [(3, .int (nI (i + 1))), (0, .ref T), (1, .int c), (2, .ref out)] ⟨inc1 i, rfl, rfl, rfl, trivial⟩ (Rf.rwS ?_ (by omega) ih)
        simp only [mI, St, cmpI, decide_eq_true_eq, hcl, rw8_cur (Nat.le_refl i), rw8_ne hTo] at hb ⊢
        rw [← hg]
        exact (if_pos (Classical.not_not.mp hb)).symm
  have := key 0 (by omega)
  rw [rw8_0] at this
  exact this
