/-! tower methods that ask -/
def bI (b : Bool) : Int32 := if b = true then Int32.ofInt 1 else Int32.ofInt 0
def z8 (f : Nat → Int32) : Bool := (List.range 8).all (fun j => decide (f j = 0))
def s8 (f g : Nat → Int32) : Bool := (List.range 8).all (fun j => decide (f j = g j))
theorem z8_iff {f : Nat → Int32} : z8 f = true ↔ ∀ j, j < 8 → f j = 0 := by
  unfold z8
  rw [List.all_eq_true]
  exact ⟨fun h j hj => of_decide_eq_true (h j (List.mem_range.mpr hj)), fun h j hj => decide_eq_true (h j (List.mem_range.mp hj))⟩
theorem s8_iff {f g : Nat → Int32} : s8 f g = true ↔ ∀ j, j < 8 → f j = g j := by
  unfold s8
  rw [List.all_eq_true]
  exact ⟨fun h j hj => of_decide_eq_true (h j (List.mem_range.mpr hj)), fun h j hj => decide_eq_true (h j (List.mem_range.mp hj))⟩
theorem z8_t {f : Nat → Int32} (h : ∀ j, j < 8 → f j = 0) : bI (z8 f) = Int32.ofInt 1 := if_pos (z8_iff.mpr h)
theorem z8_f {f : Nat → Int32} {i : Nat} (hi : i < 8) (h : ¬ f i = 0) : bI (z8 f) = Int32.ofInt 0 := if_neg (fun q => h (z8_iff.mp q i hi))
theorem s8_t {f g : Nat → Int32} (h : ∀ j, j < 8 → f j = g j) : bI (s8 f g) = Int32.ofInt 1 := if_pos (s8_iff.mpr h)
theorem s8_f {f g : Nat → Int32} {i : Nat} (hi : i < 8) (h : ¬ f i = g i) : bI (s8 f g) = Int32.ofInt 0 := if_neg (fun q => h (s8_iff.mp q i hi))
set_option maxHeartbeats 1000000 in
theorem t_isZero {K : Ka} {d T x : Nat} {M : Me} {I : Nat → Nat → Int32} {J : Nat → Nat → Int64} (hT : isC M T 3 = true) (hx : rc M x) : Ok K (d + 1) 49 [.ref T, .ref x] (St M I J) (fun r M1 => r = some (.int (bI (z8 (I x)))) ∧ M1 = St M I J) := by
  refine Ok.go (e := me_49) rfl rfl (Nat.le_of_ble_eq_true rfl) hT ?_
  refine Rf.go 100 [2] ?_
  refine Rf.weak [(2, .int (nI 0)), (0, .ref T), (1, .ref x)] ⟨rfl, rfl, rfl, trivial⟩ ?_
  have key : ∀ i, i ≤ 8 → (∀ j, j < i → I x j = 0) → Rf K d mc_49 2 (lk [(2, .int (nI i)), (0, .ref T), (1, .ref x)]) [] (St M I J) (fun r M1 => rok me_49.2.2.2.1 r = true ∧ r = some (.int (bI (z8 (I x)))) ∧ M1 = St M I J) := by
    refine for_up 8 (fun hz => ?_) (fun i hi ih hz => ?_)
    · refine Rf.go 100 [2] ?_
      exact And.intro (fun _ => ⟨rfl, by rw [z8_t hz], rfl⟩) (fun hb => (ge8n hb).elim)
    · have hcl : (nI i).toNatClampNeg = i := nI_clamp (by omega)
      refine Rf.go 100 [2] ?_
      refine And.intro (fun hb => (ge8 hi hb).elim) (fun _ => ?_)
      refine Or.inr (And.intro ⟨hx.1, rc_in hx hi⟩ ?_)
      refine And.intro (fun hb => ?_) (fun hb => ?_)
      · refine Rf.weak [(2, .int (nI (i + 1))), (0, .ref T), (1, .ref x)] ⟨inc1 i, rfl, rfl, trivial⟩ (ih (fun j hj => ?_))
        simp only [mI, St, cmpI, decide_eq_true_eq, hcl] at hb
        by_cases e : j = i
        · rw [e]; exact hb
        · exact hz j (by omega)
      · simp only [mI, St, cmpI, decide_eq_true_eq, hcl] at hb
        exact ⟨rfl, by rw [z8_f hi hb], rfl⟩
  exact key 0 (by omega) (fun j hj => absurd hj (Nat.not_lt_zero j))
set_option maxHeartbeats 1000000 in
theorem t_areSame {K : Ka} {d T x y : Nat} {M : Me} {I : Nat → Nat → Int32} {J : Nat → Nat → Int64} (hT : isC M T 3 = true) (hx : rc M x) (hy : rc M y) : Ok K (d + 1) 51 [.ref T, .ref x, .ref y] (St M I J) (fun r M1 => r = some (.int (bI (s8 (I x) (I y)))) ∧ M1 = St M I J) := by
  refine Ok.go (e := me_51) rfl rfl (Nat.le_of_ble_eq_true rfl) hT ?_
  refine Rf.go 100 [2] ?_
  refine Rf.weak [(3, .int (nI 0)), (0, .ref T), (1, .ref x), (2, .ref y)] ⟨rfl, rfl, rfl, rfl, trivial⟩ ?_
  have key : ∀ i, i ≤ 8 → (∀ j, j < i → I x j = I y j) → Rf K d mc_51 2 (lk [(3, .int (nI i)), (0, .ref T), (1, .ref x), (2, .ref y)]) [] (St M I J) (fun r M1 => rok me_51.2.2.2.1 r = true ∧ r = some (.int (bI (s8 (I x) (I y)))) ∧ M1 = St M I J) := by
    refine for_up 8 (fun hz => ?_) (fun i hi ih hz => ?_)
    · refine Rf.go 100 [2] ?_
      exact And.intro (fun _ => ⟨rfl, by rw [s8_t hz], rfl⟩) (fun hb => (ge8n hb).elim)
    · have hcl : (nI i).toNatClampNeg = i := nI_clamp (by omega)
      refine Rf.go 100 [2] ?_
      refine And.intro (fun hb => (ge8 hi hb).elim) (fun _ => ?_)
      refine Or.inr (And.intro ⟨hx.1, rc_in hx hi⟩ ?_)
      refine Or.inr (And.intro ⟨hy.1, rc_in hy hi⟩ ?_)
      refine And.intro (fun hb => ?_) (fun hb => ?_)
      · refine Rf.weak [(3, .int (nI (i + 1))), (0, .ref T), (1, .ref x), (2, .ref y)] ⟨inc1 i, rfl, rfl, rfl, trivial⟩ (ih (fun j hj => ?_))
        simp only [mI, St, cmpI, decide_eq_true_eq, hcl] at hb
        by_cases e : j = i
        · rw [e]; exact hb
        · exact hz j (by omega)
      · simp only [mI, St, cmpI, decide_eq_true_eq, hcl] at hb
        exact ⟨rfl, by rw [s8_f hi hb], rfl⟩
  exact key 0 (by omega) (fun j hj => absurd hj (Nat.not_lt_zero j))
/-- leading zeros of 1 .. 7 -/
def nlz : Nat → Nat
  | 1 => 31
  | 2 => 30
  | 3 => 30
  | _ => 29
theorem t_nlz {K : Ka} {d i : Nat} {M : Me} (h1 : 1 ≤ i) (h8 : i < 8) : Ok K (d + 1) 163 [.int (nI i)] M (fun r M1 => r = some (.int (nI (nlz i))) ∧ M1 = M) := by
  refine (Ok.up (d := 1) ?_ (by omega) (fun _ _ h => h))
  rcases (show i = 1 ∨ i = 2 ∨ i = 3 ∨ i = 4 ∨ i = 5 ∨ i = 6 ∨ i = 7 by omega) with rfl | rfl | rfl | rfl | rfl | rfl | rfl
  · exact ⟨100, _, M, rfl, rfl, rfl⟩
  · exact ⟨100, _, M, rfl, rfl, rfl⟩
  · exact ⟨100, _, M, rfl, rfl, rfl⟩
  · exact ⟨100, _, M, rfl, rfl, rfl⟩
  · exact ⟨100, _, M, rfl, rfl, rfl⟩
  · exact ⟨100, _, M, rfl, rfl, rfl⟩
  · exact ⟨100, _, M, rfl, rfl, rfl⟩
/-- the level of a row: of its places up to n - 1 -/
def lvU (f : Nat → Int32) : Nat → Nat
  | 0 => 0
  | n + 1 => if n = 0 ∨ f n = 0 then lvU f n else 32 - nlz n
set_option maxHeartbeats 1000000 in
theorem t_levelOf {K : Ka} {d T x : Nat} {M : Me} {I : Nat → Nat → Int32} {J : Nat → Nat → Int64} (hT : isC M T 3 = true) (hx : rc M x) : Ok K (d + 2) 52 [.ref T, .ref x] (St M I J) (fun r M1 => r = some (.int (nI (lvU (I x) 8))) ∧ M1 = St M I J) := by
  refine Ok.go (e := me_52) rfl rfl (Nat.le_of_ble_eq_true rfl) hT ?_
  refine Rf.go 100 [4] ?_
  refine Rf.weak [(3, .int (nI (0 + 1))), (2, .int (nI (lvU (I x) (0 + 1)))), (0, .ref T), (1, .ref x)] ⟨rfl, rfl, rfl, rfl, trivial⟩ ?_
  have key : ∀ i, i ≤ 7 → Rf K (d + 1) mc_52 4 (lk [(3, .int (nI (i + 1))), (2, .int (nI (lvU (I x) (i + 1)))), (0, .ref T), (1, .ref x)]) [] (St M I J) (fun r M1 => rok me_52.2.2.2.1 r = true ∧ r = some (.int (nI (lvU (I x) 8))) ∧ M1 = St M I J) := by
    refine for_up 7 ?_ (fun i hi ih => ?_)
    · refine Rf.go 100 [4] ?_
      exact And.intro (fun _ => ⟨rfl, rfl, rfl⟩) (fun hb => (ge8n hb).elim)
    · have hcl : (nI (i + 1)).toNatClampNeg = i + 1 := nI_clamp (by omega)
      refine Rf.go 100 [4] ?_
      refine And.intro (fun hb => (ge8 (by omega) hb).elim) (fun _ => ?_)
      refine Or.inr (And.intro ⟨hx.1, rc_in hx (by omega)⟩ ?_)
      refine And.intro (fun hb => ?_) (fun hb => ?_)
      · simp only [mI, St, cmpI, decide_eq_true_eq, hcl] at hb
        have e : lvU (I x) (i + 1 + 1) = lvU (I x) (i + 1) := if_pos (Or.inr hb)
        refine Rf.weak [(3, .int (nI (i + 1 + 1))), (2, .int (nI (lvU (I x) (i + 1 + 1)))), (0, .ref T), (1, .ref x)] ⟨inc1 (i + 1), by rw [e]; rfl, rfl, rfl, trivial⟩ ih
      · simp only [mI, St, cmpI, decide_eq_true_eq, hcl] at hb
        refine (t_nlz (i := i + 1) (by omega) (by omega)).up (Nat.le_refl _) ?_
        rintro r M1 ⟨rfl, rfl⟩
        have e : lvU (I x) (i + 1 + 1) = 32 - nlz (i + 1) := if_neg (fun q => q.elim (by omega) hb)
        have e2 : Int32.ofInt 32 - nI (nlz (i + 1)) = nI (32 - nlz (i + 1)) := pk_sub (by unfold nlz; split <;> omega)
        refine Rf.weak [(3, .int (nI (i + 1 + 1))), (2, .int (nI (lvU (I x) (i + 1 + 1)))), (0, .ref T), (1, .ref x)] ⟨inc1 (i + 1), by rw [e, ← e2]; rfl, rfl, rfl, trivial⟩ ih
  exact key 0 (by omega)
