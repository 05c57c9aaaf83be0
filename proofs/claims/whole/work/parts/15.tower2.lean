/-! Tower: mirror, power, split, join -/
def frK (k : Nat) : Nat := if k = 0 then 8 else 2 ^ (k - 1)
theorem shk : ∀ k, 1 ≤ k → k ≤ 3 → Int32.ofInt 1 <<< ((nI k - Int32.ofInt 1) &&& 31) = nI (2 ^ (k - 1)) := by
  intro k h1 h2
  rcases (show k = 1 ∨ k = 2 ∨ k = 3 by omega) with rfl | rfl | rfl <;> decide
theorem ltN {i n : Nat} (hi : i < 2 ^ 31) (hn : n < 2 ^ 31) : cmpI .lt (nI i) (nI n) = true ↔ i < n := by
  show decide (nI i < nI n) = true ↔ _
  rw [decide_eq_true_eq]
  exact nI_ltI hi hn
theorem le0N {k : Nat} (hk : k < 2 ^ 31) : cmpI .le (nI k) 0 = true ↔ k = 0 := by
  show decide (nI k ≤ nI 0) = true ↔ _
  rw [decide_eq_true_eq]
  exact (nI_leI hk (by omega)).trans (by omega)
theorem frK_le {k : Nat} (h : k ≤ 3) : frK k ≤ 8 := by
  rcases (show k = 0 ∨ k = 1 ∨ k = 2 ∨ k = 3 by omega) with rfl | rfl | rfl | rfl <;> decide
set_option maxHeartbeats 2000000 in
theorem t_mirror {K : Ka} {d T x out k : Nat} {M : Me} {I : Nat → Nat → Int32} {J : Nat → Nat → Int64} (hT : isC M T 3 = true) (hx : rc M x) (ho : rc M out) (hk : k ≤ 3) : Ok K (d + 1) 60 [.ref T, .ref x, .int (nI k), .ref out] (St M I J) (fun r M1 => r = none ∧ M1 = St M (rw8 I out 8 (fun j => if frK k ≤ j ∧ ¬ I x j = 0 then I T 0 - I x j else I x j)) J) := by
  refine Ok.go (e := me_60) rfl rfl (Nat.le_of_ble_eq_true rfl) hT ?_
  generalize hg : (fun j => if frK k ≤ j ∧ ¬ I x j = 0 then I T 0 - I x j else I x j) = g
  have hTo : T ≠ out := tag_ne hT ho.1 (by decide)
  have hf8 := frK_le hk
  have key : ∀ i, i ≤ 8 → Rf K d mc_60 12 (lk [(5, .int (nI i)), (4, .int (nI (frK k))), (0, .ref T), (1, .ref x), (3, .ref out)]) [] (St M (rw8 I out i g) J) (fun r M1 => rok me_60.2.2.2.1 r = true ∧ r = none ∧ M1 = St M (rw8 I out 8 g) J) := by
    refine for_up 8 ?_ (fun i hi ih => ?_)
    · refine Rf.go 100 [12] ?_
      refine And.intro (fun _ => ⟨rfl, rfl, rfl⟩) (fun hb => (ge8n hb).elim)
    · have hcl : (nI i).toNatClampNeg = i := nI_clamp (by omega)
      refine Rf.go 100 [12] ?_
      refine And.intro (fun hb => (ge8 hi hb).elim) (fun _ => ?_)
      refine And.intro (fun hb => ?_) (fun hb => ?_)
      · have hb := (ltN (by omega) (by omega)).mp hb
        refine Or.inr (And.intro ⟨hx.1, rc_in hx hi⟩ ?_)
        refine And.intro ⟨ho.1, rc_in ho hi⟩ ?_
        refine Rf.weak [(5, .int (nI (i + 1))), (4, .int (nI (frK k))), (0, .ref T), (1, .ref x), (3, .ref out)] ⟨inc1 i, rfl, rfl, rfl, rfl, trivial⟩ (Rf.rwS ?_ (by omega) ih)
        simp only [mI, St, hcl, rw8_cur (Nat.le_refl i)]
        rw [← hg]
        exact (if_neg (fun q => absurd q.1 (by omega))).symm
      · have hb : ¬ i < frK k := fun q => hb ((ltN (by omega) (by omega)).mpr q)
        refine Or.inr (And.intro ⟨hx.1, rc_in hx hi⟩ ?_)
        refine And.intro (fun hz => ?_) (fun hz => ?_)
        · refine Or.inr (And.intro ⟨hx.1, rc_in hx hi⟩ ?_)
          refine And.intro ⟨ho.1, rc_in ho hi⟩ ?_
          refine Rf.weak [(5, .int (nI (i + 1))), (4, .int (nI (frK k))), (0, .ref T), (1, .ref x), (3, .ref out)] ⟨inc1 i, rfl, rfl, rfl, rfl, trivial⟩ (Rf.rwS ?_ (by omega) ih)
          simp only [mI, St, cmpI, decide_eq_true_eq, hcl, rw8_cur (Nat.le_refl i)] at hz ⊢
          rw [← hg]
          exact (if_neg (fun q => q.2 hz)).symm
        · refine And.intro hT ?_
          refine Or.inr (And.intro ⟨hx.1, rc_in hx hi⟩ ?_)
          refine And.intro ⟨ho.1, rc_in ho hi⟩ ?_
          refine Rf.weak [(5, .int (nI (i + 1))), (4, .int (nI (frK k))), (0, .ref T), (1, .ref x), (3, .ref out)] ⟨inc1 i, rfl, rfl, rfl, rfl, trivial⟩ (Rf.rwS ?_ (by omega) ih)
          simp only [mI, St, cmpI, decide_eq_true_eq, hcl, rw8_cur (Nat.le_refl i), rw8_ne hTo] at hz ⊢
          rw [← hg]
          exact (if_pos ⟨by omega, hz⟩).symm
  have k0 := key 0 (by omega)
  rw [rw8_0] at k0
  refine Rf.go 100 [12] ?_
  refine And.intro (fun hb => ?_) (fun hb => ?_)
  · have hk0 := (le0N (by omega)).mp hb
    subst hk0
    exact Rf.weak [(5, .int (nI 0)), (4, .int (nI (frK 0))), (0, .ref T), (1, .ref x), (3, .ref out)] ⟨rfl, rfl, rfl, rfl, rfl, trivial⟩ k0
  · have hk0 : k ≠ 0 := fun q => hb ((le0N (by omega)).mpr q)
    have e : frK k = 2 ^ (k - 1) := if_neg hk0
    exact Rf.weak [(5, .int (nI 0)), (4, .int (nI (frK k))), (0, .ref T), (1, .ref x), (3, .ref out)] ⟨rfl, by rw [e, ← shk k (by omega) hk]; rfl, rfl, rfl, rfl, trivial⟩ k0
theorem and1 {n : Nat} (h : n < 2 ^ 31) : nI n &&& Int32.ofInt 1 = nI (n % 2) := pk_andN (by omega) 1 (by decide)
theorem shr1 {n : Nat} (h : n < 2 ^ 31) : nI n >>> (Int32.ofInt 1 &&& 31) = nI (n / 2) := pk_shrN h _ 1 (by decide)
theorem sq_lt {a b p : Nat} (ha : a < p) (hb : b < p) (hp : p ≤ 32749) : a * b < 2 ^ 31 := Nat.lt_of_le_of_lt (Nat.mul_le_mul (Nat.le_of_lt (Nat.lt_of_lt_of_le ha hp)) (Nat.le_of_lt (Nat.lt_of_lt_of_le hb hp))) (by decide)
set_option maxHeartbeats 2000000 in
theorem t_power {K : Ka} {d T p a n : Nat} {M : Me} {I : Nat → Nat → Int32} {J : Nat → Nat → Int64} (hT : isC M T 3 = true) (hp : I T 0 = nI p) (hp1 : 2 ≤ p) (hp2 : p ≤ 32749) (ha : a < p) (hn : n < 2 ^ 31) : Ok K (d + 1) 45 [.ref T, .int (nI a), .int (nI n)] (St M I J) (fun r M1 => r = some (.int (nI (a ^ n % p))) ∧ M1 = St M I J) := by
  refine Ok.go (e := me_45) rfl rfl (Nat.le_of_ble_eq_true rfl) hT ?_
  have hp0 : ¬ I T 0 = 0 := by rw [hp]; exact nI_ne0 (by omega) (by omega)
  refine Rf.go 100 [6] ?_
  refine Rf.weak [(5, .int (nI n)), (4, .int (nI a)), (3, .int (nI 1)), (0, .ref T)] ⟨rfl, rfl, rfl, rfl, trivial⟩ ?_
  have key : ∀ e, e < 2 ^ 31 → ∀ s r, s < p → r < p → r * s ^ e % p = a ^ n % p → Rf K d mc_45 6 (lk [(5, .int (nI e)), (4, .int (nI s)), (3, .int (nI r)), (0, .ref T)]) [] (St M I J) (fun r M1 => rok me_45.2.2.2.1 r = true ∧ r = some (.int (nI (a ^ n % p))) ∧ M1 = St M I J) := by
    intro e
    induction e using Nat.strongRecOn with
    | ind e ih =>
      intro he s r hs hr hinv
      refine Rf.go 100 [6] ?_
      refine And.intro (fun hb => ?_) (fun hb => ?_)
      · have h0 := (le0N he).mp hb
        subst h0
        rw [Nat.pow_zero, Nat.mul_one, Nat.mod_eq_of_lt hr] at hinv
        exact ⟨rfl, by rw [hinv], rfl⟩
      · have h0 : e ≠ 0 := fun q => hb ((le0N he).mpr q)
        have hss := sq_lt hs hs hp2
        have hrs := sq_lt hr hs hp2
        have e1 : nI s * nI s - nI s * nI s / I T 0 * I T 0 = nI (s * s % p) := by rw [hp, pk_mul, pk_rem hss (by omega) (by omega)]
        have e2 : nI r * nI s - nI r * nI s / I T 0 * I T 0 = nI (r * s % p) := by rw [hp, pk_mul, pk_rem hrs (by omega) (by omega)]
        have hpow : (s * s % p) ^ (e / 2) % p = s ^ (2 * (e / 2)) % p := by rw [← Nat.pow_mod, ← Nat.pow_two, ← Nat.pow_mul]
        refine And.intro (fun hb => ?_) (fun hb => ?_)
        · -- even
          have hb : ¬ nI e &&& Int32.ofInt 1 = Int32.ofInt 1 := of_decide_eq_true hb
          rw [and1 he] at hb
          have hev : e % 2 = 0 := by
            rcases Nat.mod_two_eq_zero_or_one e with q | q
            · exact q
            · exact absurd (by rw [q]; rfl) hb
          refine And.intro hT (And.intro hp0 ?_)
          refine Rf.weak [(5, .int (nI (e / 2))), (4, .int (nI (s * s % p))), (3, .int (nI r)), (0, .ref T)] ⟨congrArg (fun z => some (Value.int z)) (shr1 he), congrArg (fun z => some (Value.int z)) e1, rfl, rfl, trivial⟩ (ih (e / 2) (by omega) (by omega) (s * s % p) r (Nat.mod_lt _ (by omega)) hr ?_)
          rw [Nat.mul_mod, hpow, ← Nat.mul_mod, show 2 * (e / 2) = e by omega]
          exact hinv
        · have hb : ¬ ¬ nI e &&& Int32.ofInt 1 = Int32.ofInt 1 := fun q => hb (decide_eq_true q)
          have hb := Classical.not_not.mp hb
          rw [and1 he] at hb
          have hod : e % 2 = 1 := (nI_eq (a := e % 2) (b := 1) (by omega) (by omega)).mp hb
          refine And.intro hT (And.intro hp0 ?_)
          refine And.intro hT (And.intro hp0 ?_)
          refine Rf.weak [(5, .int (nI (e / 2))), (4, .int (nI (s * s % p))), (3, .int (nI (r * s % p))), (0, .ref T)] ⟨congrArg (fun z => some (Value.int z)) (shr1 he), congrArg (fun z => some (Value.int z)) e1, congrArg (fun z => some (Value.int z)) e2, rfl, trivial⟩ (ih (e / 2) (by omega) (by omega) (s * s % p) (r * s % p) (Nat.mod_lt _ (by omega)) (Nat.mod_lt _ (by omega)) ?_)
          rw [Nat.mul_mod, hpow, Nat.mod_mod, ← Nat.mul_mod, Nat.mul_assoc, ← Nat.pow_succ', show (2 * (e / 2)).succ = e by omega]
          exact hinv
  exact key n hn a 1 ha (by omega) (by rw [Nat.one_mul])
theorem u2_rw8 {I : Nat → Nat → Int32} {a b i j : Nat} {g : Nat → Int32} {v : Int32} (h : a ≠ b) : u2 (rw8 I b i g) a j v = rw8 (u2 I a j v) b i g := by
  funext c
  by_cases e : c = a
  · subst e
    rw [u2_eq, rw8_ne h, rw8_ne h, u2_eq]
  · rw [u2_ne e]
    by_cases e2 : c = b
    · subst e2
      unfold rw8
      rw [if_pos rfl, if_pos rfl, u2_ne e]
    · rw [rw8_ne e2, rw8_ne e2, u2_ne e]
theorem hlf {k : Nat} (h1 : 1 ≤ k) (h3 : k ≤ 3) : 2 ^ (k - 1) ≤ 4 ∧ 1 ≤ 2 ^ (k - 1) := by
  rcases (show k = 1 ∨ k = 2 ∨ k = 3 by omega) with rfl | rfl | rfl <;> decide
set_option maxHeartbeats 4000000 in
theorem t_split {K : Ka} {d T x lo hi9 k : Nat} {M : Me} {I : Nat → Nat → Int32} {J : Nat → Nat → Int64} (hT : isC M T 3 = true) (hx : rc M x) (hl : rc M lo) (hh : rc M hi9) (h1 : 1 ≤ k) (h3 : k ≤ 3) (hxl : x ≠ lo) (hxh : x ≠ hi9) (hlh : lo ≠ hi9) : Ok K (d + 1) 69 [.ref T, .ref x, .int (nI k), .ref lo, .ref hi9] (St M I J) (fun r M1 => r = none ∧ M1 = St M (rw8 (rw8 I lo 8 (fun j => if j < 2 ^ (k - 1) then I x j else Int32.ofInt 0)) hi9 8 (fun j => if j < 2 ^ (k - 1) then I x (2 ^ (k - 1) + j) else Int32.ofInt 0)) J) := by
  refine Ok.go (e := me_69) rfl rfl (Nat.le_of_ble_eq_true rfl) hT ?_
  generalize hg : (fun j => if j < 2 ^ (k - 1) then I x j else Int32.ofInt 0) = g
  generalize hg2 : (fun j => if j < 2 ^ (k - 1) then I x (2 ^ (k - 1) + j) else Int32.ofInt 0) = g2
  obtain ⟨hb4, hb1⟩ := hlf h1 h3
  refine Rf.go 100 [8] ?_
  refine Rf.weak [(6, .int (nI 0)), (5, .int (nI (2 ^ (k - 1)))), (0, .ref T), (1, .ref x), (3, .ref lo), (4, .ref hi9)] ⟨rfl, congrArg (fun z => some (Value.int z)) (shk k h1 h3), rfl, rfl, rfl, rfl, trivial⟩ ?_
  have key : ∀ i, i ≤ 8 → Rf K d mc_69 8 (lk [(6, .int (nI i)), (5, .int (nI (2 ^ (k - 1)))), (0, .ref T), (1, .ref x), (3, .ref lo), (4, .ref hi9)]) [] (St M (rw8 (rw8 I lo i g) hi9 i g2) J) (fun r M1 => rok me_69.2.2.2.1 r = true ∧ r = none ∧ M1 = St M (rw8 (rw8 I lo 8 g) hi9 8 g2) J) := by
    refine for_up 8 ?_ (fun i hi ih => ?_)
    · refine Rf.go 100 [8] ?_
      refine And.intro (fun _ => ⟨rfl, rfl, rfl⟩) (fun hb => (ge8n hb).elim)
    · have hcl : (nI i).toNatClampNeg = i := nI_clamp (by omega)
      have hxr : ∀ I9 j, (u2 (rw8 (rw8 I lo i g) hi9 i g2) lo j I9) x = I x := fun I9 j => by rw [u2_ne hxl, rw8_ne hxh, rw8_ne hxl]
      have hxr0 : (rw8 (rw8 I lo i g) hi9 i g2) x = I x := by rw [rw8_ne hxh, rw8_ne hxl]
      have fin : ∀ v v2 : Int32, v = g i → v2 = g2 i → u2 (u2 (rw8 (rw8 I lo i g) hi9 i g2) lo (nI i).toNatClampNeg v) hi9 (nI i).toNatClampNeg v2 = rw8 (rw8 I lo (i + 1) g) hi9 (i + 1) g2 := by
        intro v v2 e1 e2
        rw [u2_rw8 hlh, rw8_step e1 (by omega), rw8_step e2 (by omega)]
      refine Rf.go 100 [8] ?_
      refine And.intro (fun hb => (ge8 hi hb).elim) (fun _ => ?_)
      refine And.intro (fun hb => ?_) (fun hb => ?_)
      · have hb := (geN (by omega) (by omega)).mp hb
        refine And.intro ⟨hl.1, rc_in hl hi⟩ ?_
        refine And.intro (fun hb2 => ?_) (fun hb2 => absurd ((geN (by omega) (by omega)).mpr hb) hb2)
        refine And.intro ⟨hh.1, rc_in hh hi⟩ ?_
        refine Rf.weak [(6, .int (nI (i + 1))), (5, .int (nI (2 ^ (k - 1)))), (0, .ref T), (1, .ref x), (3, .ref lo), (4, .ref hi9)] ⟨inc1 i, rfl, rfl, rfl, rfl, rfl, trivial⟩ ?_
        rw [← fin (Int32.ofInt 0) (Int32.ofInt 0) (by rw [← hg]; exact (if_neg (by omega)).symm) (by rw [← hg2]; exact (if_neg (by omega)).symm)] at ih
        exact ih
      · have hb : ¬ 2 ^ (k - 1) ≤ i := fun q => hb ((geN (by omega) (by omega)).mpr q)
        have ek : nI (2 ^ (k - 1)) + nI i = nI (2 ^ (k - 1) + i) := nI_add _ _
        refine Or.inr (And.intro ⟨hx.1, rc_in hx hi⟩ ?_)
        refine And.intro ⟨hl.1, rc_in hl hi⟩ ?_
        refine And.intro (fun hb2 => absurd ((geN (by omega) (by omega)).mp hb2) hb) (fun _ => ?_)
        refine Or.inr (And.intro ⟨hx.1, by show inb (nI (2 ^ (k - 1)) + nI i) (mH M x).2 = true; rw [ek]; exact rc_in hx (by omega)⟩ ?_)
        refine And.intro ⟨hh.1, rc_in hh hi⟩ ?_
        refine Rf.weak [(6, .int (nI (i + 1))), (5, .int (nI (2 ^ (k - 1)))), (0, .ref T), (1, .ref x), (3, .ref lo), (4, .ref hi9)] ⟨inc1 i, rfl, rfl, rfl, rfl, rfl, trivial⟩ ?_
        rw [← fin (rw8 (rw8 I lo i g) hi9 i g2 x (nI i).toNatClampNeg) ((u2 (rw8 (rw8 I lo i g) hi9 i g2) lo (nI i).toNatClampNeg (rw8 (rw8 I lo i g) hi9 i g2 x (nI i).toNatClampNeg)) x (nI (2 ^ (k - 1)) + nI i).toNatClampNeg) (by rw [hxr0, hcl, ← hg]; exact (if_pos (by omega)).symm) (by rw [hxr, ek, nI_clamp (by omega), ← hg2]; exact (if_pos (by omega)).symm)] at ih
        exact ih
  have k0 := key 0 (by omega)
  rw [rw8_0, rw8_0] at k0
  exact k0
set_option maxHeartbeats 4000000 in
theorem t_join {K : Ka} {d T lo hi9 out k : Nat} {M : Me} {I : Nat → Nat → Int32} {J : Nat → Nat → Int64} (hT : isC M T 3 = true) (hl : rc M lo) (hh : rc M hi9) (ho : rc M out) (h1 : 1 ≤ k) (h3 : k ≤ 3) (hho : hi9 ≠ out) : Ok K (d + 1) 70 [.ref T, .ref lo, .ref hi9, .int (nI k), .ref out] (St M I J) (fun r M1 => r = none ∧ M1 = St M (rw8 I out 8 (fun j => if j < 2 ^ (k - 1) then I lo j else if j < 2 * 2 ^ (k - 1) then I hi9 (j - 2 ^ (k - 1)) else Int32.ofInt 0)) J) := by
  refine Ok.go (e := me_70) rfl rfl (Nat.le_of_ble_eq_true rfl) hT ?_
  generalize hg : (fun j => if j < 2 ^ (k - 1) then I lo j else if j < 2 * 2 ^ (k - 1) then I hi9 (j - 2 ^ (k - 1)) else Int32.ofInt 0) = g
  obtain ⟨hb4, hb1⟩ := hlf h1 h3
  refine Rf.go 100 [8] ?_
  refine Rf.weak [(6, .int (nI 0)), (5, .int (nI (2 ^ (k - 1)))), (0, .ref T), (1, .ref lo), (2, .ref hi9), (4, .ref out)] ⟨rfl, congrArg (fun z => some (Value.int z)) (shk k h1 h3), rfl, rfl, rfl, rfl, trivial⟩ ?_
  have key : ∀ i, i ≤ 8 → Rf K d mc_70 8 (lk [(6, .int (nI i)), (5, .int (nI (2 ^ (k - 1)))), (0, .ref T), (1, .ref lo), (2, .ref hi9), (4, .ref out)]) [] (St M (rw8 I out i g) J) (fun r M1 => rok me_70.2.2.2.1 r = true ∧ r = none ∧ M1 = St M (rw8 I out 8 g) J) := by
    refine for_up 8 ?_ (fun i hi ih => ?_)
    · refine Rf.go 100 [8] ?_
      refine And.intro (fun _ => ⟨rfl, rfl, rfl⟩) (fun hb => (ge8n hb).elim)
    · have hcl : (nI i).toNatClampNeg = i := nI_clamp (by omega)
      have e2 : Int32.ofInt 2 * nI (2 ^ (k - 1)) = nI (2 * 2 ^ (k - 1)) := pk_mul 2 _
      refine Rf.go 100 [8] ?_
      refine And.intro (fun hb => (ge8 hi hb).elim) (fun _ => ?_)
      refine And.intro (fun hb => ?_) (fun hb => ?_)
      · have hb := (geN (by omega) (by omega)).mp hb
        refine And.intro (fun hb2 => ?_) (fun hb2 => ?_)
        · have hb2 : cmpI .ge (nI i) (Int32.ofInt 2 * nI (2 ^ (k - 1))) = true := hb2
          rw [e2] at hb2
          have hb2 := (geN (by omega) (by omega)).mp hb2
          refine And.intro ⟨ho.1, rc_in ho hi⟩ ?_
          refine Rf.weak [(6, .int (nI (i + 1))), (5, .int (nI (2 ^ (k - 1)))), (0, .ref T), (1, .ref lo), (2, .ref hi9), (4, .ref out)] ⟨inc1 i, rfl, rfl, rfl, rfl, rfl, trivial⟩ (Rf.rwS ?_ (by omega) ih)
          rw [← hg]
          show _ = if i < 2 ^ (k - 1) then I lo i else if i < 2 * 2 ^ (k - 1) then I hi9 (i - 2 ^ (k - 1)) else Int32.ofInt 0
          rw [if_neg (by omega), if_neg (by omega)]
        · have hb2 : ¬ cmpI .ge (nI i) (Int32.ofInt 2 * nI (2 ^ (k - 1))) = true := hb2
          rw [e2] at hb2
          have hb2 : ¬ 2 * 2 ^ (k - 1) ≤ i := fun q => hb2 ((geN (by omega) (by omega)).mpr q)
          have ek : nI i - nI (2 ^ (k - 1)) = nI (i - 2 ^ (k - 1)) := pk_sub hb
          refine Or.inr (And.intro ⟨hh.1, by show inb (nI i - nI (2 ^ (k - 1))) (mH M hi9).2 = true; rw [ek]; exact rc_in hh (by omega)⟩ ?_)
          refine And.intro ⟨ho.1, rc_in ho hi⟩ ?_
          refine Rf.weak [(6, .int (nI (i + 1))), (5, .int (nI (2 ^ (k - 1)))), (0, .ref T), (1, .ref lo), (2, .ref hi9), (4, .ref out)] ⟨inc1 i, rfl, rfl, rfl, rfl, rfl, trivial⟩ (Rf.rwS ?_ (by omega) ih)
          show rw8 I out i g hi9 (nI i - nI (2 ^ (k - 1))).toNatClampNeg = _
          rw [rw8_ne hho, ek, nI_clamp (by omega), ← hg]
          show _ = if i < 2 ^ (k - 1) then I lo i else if i < 2 * 2 ^ (k - 1) then I hi9 (i - 2 ^ (k - 1)) else Int32.ofInt 0
          rw [if_neg (by omega), if_pos (by omega)]
      · have hb : ¬ 2 ^ (k - 1) ≤ i := fun q => hb ((geN (by omega) (by omega)).mpr q)
        refine Or.inr (And.intro ⟨hl.1, rc_in hl hi⟩ ?_)
        refine And.intro ⟨ho.1, rc_in ho hi⟩ ?_
        refine Rf.weak [(6, .int (nI (i + 1))), (5, .int (nI (2 ^ (k - 1)))), (0, .ref T), (1, .ref lo), (2, .ref hi9), (4, .ref out)] ⟨inc1 i, rfl, rfl, rfl, rfl, rfl, trivial⟩ (Rf.rwS ?_ (by omega) ih)
        simp only [mI, St, hcl, rw8_cur (Nat.le_refl i)]
        rw [← hg]
        exact (if_pos (by omega)).symm
  have k0 := key 0 (by omega)
  rw [rw8_0] at k0
  exact k0
