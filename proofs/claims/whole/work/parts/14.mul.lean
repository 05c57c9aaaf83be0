/-! Tower.multiply -/
def spn (c : Nat) : Nat := if c < 2 then 1 else if c < 4 then 2 else 4
def stt (i j : Nat) : Nat := (i ^^^ j) / spn (i &&& j) * spn (i &&& j)
def tij (p : Nat) (v w u : Nat → Nat) (i j k : Nat) : Nat := if stt i j ≤ k ∧ k < stt i j + spn (i &&& j) then (v i * w j % p) * u ((i * 8 + j) * 4 + (k - stt i j)) else 0
def sj (p : Nat) (v w u : Nat → Nat) (i : Nat) : Nat → Nat → Nat
  | 0, _ => 0
  | n + 1, k => sj p v w u i n k + tij p v w u i n k
def si (p : Nat) (v w u : Nat → Nat) (W : Nat) : Nat → Nat → Nat
  | 0, _ => 0
  | n + 1, k => si p v w u W n k + sj p v w u n W k
def mulS (p : Nat) (v w u : Nat → Nat) (h k : Nat) : Nat := si p v w u (2 ^ h) (2 ^ h) k
def pmS (s : Nat → Nat) (st wt : Nat) (uu : Nat → Nat) (m k : Nat) : Nat := s k + (if st ≤ k ∧ k < st + m then wt * uu (k - st) else 0)
/-- the sums -/
def jr (J : Nat → Nat → Int64) (a : Nat) (s : Nat → Nat) : Nat → Nat → Int64 := fun b => if b = a then (fun k => if k < 8 then lN (s k) else J a k) else J b
theorem jr_at {J : Nat → Nat → Int64} {a k : Nat} {s : Nat → Nat} (h : k < 8) : jr J a s a k = lN (s k) := by
  unfold jr; rw [if_pos rfl, if_pos h]
theorem jr_put {J : Nat → Nat → Int64} {a k0 : Nat} {s s' : Nat → Nat} {z : Int64} (hk : k0 < 8) (hz : z = lN (s' k0)) (ho : ∀ k, k < 8 → k ≠ k0 → s' k = s k) : u2 (jr J a s) a k0 z = jr J a s' := by
  subst hz
  funext b
  unfold u2 jr
  by_cases e : b = a
  · subst e
    rw [if_pos rfl, if_pos rfl]
    funext k
    rw [if_pos rfl]
    show (if k = k0 then lN (s' k0) else (if k < 8 then lN (s k) else J b k)) = if k < 8 then lN (s' k) else J b k
    by_cases h1 : k = k0
    · subst h1; rw [if_pos rfl, if_pos hk]
    · rw [if_neg h1]
      by_cases h2 : k < 8
      · show (if k < 8 then lN (s k) else J b k) = if k < 8 then lN (s' k) else J b k
        rw [if_pos h2, if_pos h2, ho k h2 h1]
      · show (if k < 8 then lN (s k) else J b k) = if k < 8 then lN (s' k) else J b k
        rw [if_neg h2, if_neg h2]
  · rw [if_neg e, if_neg e, if_neg e]
theorem jr_congr {J : Nat → Nat → Int64} {a : Nat} {s s' : Nat → Nat} (h : ∀ k, k < 8 → s k = s' k) : jr J a s = jr J a s' := by
  funext b
  unfold jr
  by_cases e : b = a
  · rw [if_pos e, if_pos e]
    funext k
    by_cases h2 : k < 8
    · rw [if_pos h2, if_pos h2, h k h2]
    · rw [if_neg h2, if_neg h2]
  · rw [if_neg e, if_neg e]
theorem shl1 : ∀ h, h ≤ 3 → Int32.ofInt 1 <<< (nI h &&& 31) = nI (2 ^ h) := by
  intro h hh
  rcases (show h = 0 ∨ h = 1 ∨ h = 2 ∨ h = 3 by omega) with rfl | rfl | rfl | rfl <;> decide
theorem and8 : ∀ i, i < 8 → ∀ j, j < 8 → nI i &&& nI j = nI (i &&& j) := by decide
theorem st8 : ∀ i, i < 8 → ∀ j, j < 8 → (nI i ^^^ nI j) &&& (-(nI (spn (i &&& j)))) = nI (stt i j) := by decide
theorem sp8 : ∀ i, i < 8 → ∀ j, j < 8 → i &&& j < 8 ∧ stt i j + spn (i &&& j) ≤ 8 ∧ (i * 8 + j) * 4 + spn (i &&& j) ≤ 256 ∧ spn (i &&& j) ≤ 4 := by decide
theorem w8 {h : Nat} (hh : h ≤ 3) : 2 ^ h ≤ 8 := by
  rcases (show h = 0 ∨ h = 1 ∨ h = 2 ∨ h = 3 by omega) with rfl | rfl | rfl | rfl <;> decide
theorem inb_n {i n : Nat} (h : i < n) (hi : i < 2 ^ 31) : inb (nI i) n = true := by
  unfold inb
  have h1 : ¬ nI i < 0 := nI_pos hi
  rw [nI_clamp hi]
  simp [h1]
  omega
theorem geN {i n : Nat} (hi : i < 2 ^ 31) (hn : n < 2 ^ 31) : cmpI .ge (nI i) (nI n) = true ↔ n ≤ i := by
  show decide (nI n ≤ nI i) = true ↔ _
  rw [decide_eq_true_eq]
  exact nI_leI hn hi
theorem tij_le {p : Nat} {v w u : Nat → Nat} {i j k : Nat} (hp : 1 ≤ p) (hp2 : p ≤ 32749) (hu : ∀ m, m < spn (i &&& j) → u ((i * 8 + j) * 4 + m) < p) : tij p v w u i j k ≤ 2 ^ 30 := by
  unfold tij
  split
  · next h =>
    have h1 := hu (k - stt i j) (by omega)
    have h2 : v i * w j % p < p := Nat.mod_lt _ (by omega)
    exact Nat.le_trans (Nat.mul_le_mul (Nat.le_of_lt h2) (Nat.le_of_lt h1)) (Nat.le_trans (Nat.mul_le_mul hp2 hp2) (by decide))
  · exact Nat.zero_le _
theorem sj_le {p : Nat} {v w u : Nat → Nat} {i k : Nat} (hp : 1 ≤ p) (hp2 : p ≤ 32749) : ∀ n, (∀ j, j < n → ∀ m, m < spn (i &&& j) → u ((i * 8 + j) * 4 + m) < p) → sj p v w u i n k ≤ n * 2 ^ 30
  | 0, _ => Nat.zero_le _
  | n + 1, hu => by
    have h1 := sj_le (v := v) (w := w) (k := k) hp hp2 n (fun j hj => hu j (by omega))
    have h2 := tij_le (v := v) (w := w) (k := k) hp hp2 (hu n (by omega))
    show sj p v w u i n k + tij p v w u i n k ≤ _
    omega
theorem si_le {p W : Nat} {v w u : Nat → Nat} {k : Nat} (hp : 1 ≤ p) (hp2 : p ≤ 32749) : ∀ n, (∀ i j, i < n → j < W → ∀ m, m < spn (i &&& j) → u ((i * 8 + j) * 4 + m) < p) → si p v w u W n k ≤ n * (W * 2 ^ 30)
  | 0, _ => Nat.zero_le _
  | n + 1, hu => by
    have h1 := si_le (v := v) (w := w) (k := k) hp hp2 n (fun i j hi hj => hu i j (by omega) hj)
    have h2 := sj_le (v := v) (w := w) (i := n) (k := k) hp hp2 W (fun j hj => hu n j (by omega) hj)
    show si p v w u W n k + sj p v w u n W k ≤ _
    rw [Nat.succ_mul]
    omega
set_option maxHeartbeats 4000000 in
theorem t_mul {K : Ka} {d T x y out sm9 U p h : Nat} {M : Me} {I : Nat → Nat → Int32} {J : Nat → Nat → Int64} {v w u : Nat → Nat} (hK : (K 0).1 = 8 ∧ ∀ c, c < 8 → (K 0).2 c = nI (spn c)) (hT : isC M T 3 = true) (hS : isC M sm9 11 = true ∧ (mH M sm9).2 = 8) (hSR : mR M T 4 = some sm9) (hU : isC M U 10 = true ∧ (mH M U).2 = 256) (hUR : mR M T 3 = some U) (hx : rc M x) (hy : rc M y) (ho : rc M out)
    (hp : I T 0 = nI p) (hp1 : 1 ≤ p) (hp2 : p ≤ 32749) (hh : I T 1 = nI h) (hh3 : h ≤ 3) (hv : ∀ j, j < 8 → I x j = nI (v j) ∧ v j < p) (hw : ∀ j, j < 8 → I y j = nI (w j) ∧ w j < p) (hu : ∀ i j, i < 2 ^ h → j < 2 ^ h → ∀ m, m < spn (i &&& j) → I U ((i * 8 + j) * 4 + m) = nI (u ((i * 8 + j) * 4 + m)) ∧ u ((i * 8 + j) * 4 + m) < p) :
    Ok K (d + 1) 58 [.ref T, .ref x, .ref y, .ref out] (St M I J) (fun r M1 => r = none ∧ ∃ J', M1 = St M (rw8 I out 8 (fun k => nI (mulS p v w u h k % p))) J') := by
  refine Ok.go (e := me_58) rfl rfl (Nat.le_of_ble_eq_true rfl) hT ?_
  have hTo : T ≠ out := tag_ne hT ho.1 (by decide)
  have hW := w8 hh3
  have hpn : p < 2 ^ 31 := by omega
  refine Rf.go 200 [7] ?_
  refine And.intro hT ?_
  refine Rf.weak [(5, .int (nI 0)), (4, .int (nI (2 ^ h))), (0, .ref T), (1, .ref x), (2, .ref y), (3, .ref out)] ⟨rfl, by show some (Value.int (Int32.ofInt 1 <<< (I T 1 &&& 31))) = _; rw [hh, shl1 h hh3], rfl, rfl, rfl, rfl, trivial⟩ ?_
  generalize hpost : (fun (r : Option Value) (M1 : Me) => rok me_58.2.2.2.1 r = true ∧ r = none ∧ ∃ J', M1 = St M (rw8 I out 8 (fun k => nI (mulS p v w u h k % p))) J') = post
  -- the last loop
  have last : ∀ J1 : Nat → Nat → Int64, (∀ k, k < 8 → J1 sm9 k = lN (mulS p v w u h k)) → Rf K d mc_58 96 (lk [(5, .int (nI 0)), (0, .ref T), (3, .ref out)]) [] (St M I J1) post := by
    intro J1 hJ1
    generalize hg : (fun k => nI (mulS p v w u h k % p)) = g
    have key : ∀ i, i ≤ 8 → Rf K d mc_58 96 (lk [(5, .int (nI i)), (0, .ref T), (3, .ref out)]) [] (St M (rw8 I out i g) J1) post := by
      refine for_up 8 ?_ (fun i hi ih => ?_)
      · refine Rf.go 100 [96] ?_
        rw [← hpost]
        refine And.intro (fun _ => ⟨rfl, rfl, J1, by rw [hg]⟩) (fun hb => (ge8n hb).elim)
      · have hcl : (nI i).toNatClampNeg = i := nI_clamp (by omega)
        refine Rf.go 100 [96] ?_
        refine And.intro (fun hb => (ge8 hi hb).elim) (fun _ => ?_)
        refine And.intro hT ⟨sm9, hSR, ?_⟩
        refine And.intro ⟨hS.1, by show inb (nI i) (mH M sm9).2 = true; rw [hS.2]; exact inb_n hi (by omega)⟩ ?_
        refine And.intro hT ?_
        have hpe : (rw8 I out i g T 0).toInt64 = lN p := by rw [rw8_ne hTo, hp, nI_l hpn]
        have hp0 : ¬ lN p = 0 := fun q => by
          have := (lN_eq (a := p) (b := 0) hpn (by omega)).mp q
          omega
        refine And.intro (by show ¬ (rw8 I out i g T 0).toInt64 = 0; rw [hpe]; exact hp0) ?_
        refine And.intro ⟨ho.1, rc_in ho hi⟩ ?_
        refine Rf.weak [(5, .int (nI (i + 1))), (0, .ref T), (3, .ref out)] ⟨inc1 i, rfl, rfl, trivial⟩ (Rf.rwS ?_ (by omega) ih)
        show (J1 sm9 (nI i).toNatClampNeg - J1 sm9 (nI i).toNatClampNeg / (rw8 I out i g T 0).toInt64 * (rw8 I out i g T 0).toInt64).toInt32 = g i
        have hbd : mulS p v w u h i < 2 ^ 63 := by
          have h1 := si_le (v := v) (w := w) (k := i) hp1 hp2 (2 ^ h) (W := 2 ^ h) (fun a b ha hb m hm => (hu a b ha hb m hm).2)
          have h2 : 2 ^ h * (2 ^ h * 2 ^ 30) ≤ 8 * (8 * 2 ^ 30) := Nat.mul_le_mul hW (Nat.mul_le_mul_right _ hW)
          exact Nat.lt_of_le_of_lt (Nat.le_trans h1 h2) (by decide)
        rw [hpe, hcl, hJ1 i hi, pk_lRem hbd (by omega) (by omega), lN_i, ← hg]
    have := key 0 (by omega)
    rw [rw8_0] at this
    exact this
  -- the loops over i and j
  have main : ∀ i, i ≤ 2 ^ h → ∀ J1 : Nat → Nat → Int64, J1 = jr J sm9 (si p v w u (2 ^ h) i) → Rf K d mc_58 19 (lk [(5, .int (nI i)), (4, .int (nI (2 ^ h))), (0, .ref T), (1, .ref x), (2, .ref y), (3, .ref out)]) [] (St M I J1) post := by
    refine for_up (2 ^ h) (fun J1 hJ1 => ?_) (fun i hi ih J1 hJ1 => ?_)
    · refine Rf.go 100 [96] ?_
      refine And.intro (fun _ => ?_) (fun hb => absurd ((geN (by omega) (by omega)).mpr (Nat.le_refl _)) hb)
      refine Rf.weak [(5, .int (nI 0)), (0, .ref T), (3, .ref out)] ⟨rfl, rfl, rfl, trivial⟩ (last J1 (fun k hk => ?_))
      rw [hJ1, jr_at hk]
      rfl
    · have hi8 : i < 8 := by omega
      have hcl : (nI i).toNatClampNeg = i := nI_clamp (by omega)
      refine Rf.go 100 [24] ?_
      refine And.intro (fun hb => absurd ((geN (by omega) (by omega)).mp hb) (by omega)) (fun _ => ?_)
      refine Rf.weak [(6, .int (nI 0)), (5, .int (nI i)), (4, .int (nI (2 ^ h))), (0, .ref T), (1, .ref x), (2, .ref y), (3, .ref out)] ⟨rfl, rfl, rfl, rfl, rfl, rfl, rfl, trivial⟩ ?_
      have mid : ∀ j, j ≤ 2 ^ h → ∀ J2 : Nat → Nat → Int64, J2 = jr J sm9 (fun k => si p v w u (2 ^ h) i k + sj p v w u i j k) → Rf K d mc_58 24 (lk [(6, .int (nI j)), (5, .int (nI i)), (4, .int (nI (2 ^ h))), (0, .ref T), (1, .ref x), (2, .ref y), (3, .ref out)]) [] (St M I J2) post := by
        refine for_up (2 ^ h) (fun J2 hJ2 => ?_) (fun j hj ihj J2 hJ2 => ?_)
        · refine Rf.go 100 [19] ?_
          refine And.intro (fun _ => ?_) (fun hb => absurd ((geN (by omega) (by omega)).mpr (Nat.le_refl _)) hb)
          exact Rf.weak [(5, .int (nI (i + 1))), (4, .int (nI (2 ^ h))), (0, .ref T), (1, .ref x), (2, .ref y), (3, .ref out)] ⟨inc1 i, rfl, rfl, rfl, rfl, rfl, trivial⟩ (ih J2 hJ2)
        · have hj8 : j < 8 := by omega
          have hclj : (nI j).toNatClampNeg = j := nI_clamp (by omega)
          obtain ⟨q1, q2, q3, q4⟩ := sp8 i hi8 j hj8
          refine Rf.go 100 [19, 65] ?_
          refine And.intro (fun hb => absurd ((geN (by omega) (by omega)).mp hb) (by omega)) (fun _ => ?_)
          refine Or.inr (And.intro ⟨hx.1, rc_in hx hi8⟩ ?_)
          refine And.intro (fun hb => ?_) (fun hb => ?_)
          · -- x i is 0
            have hb : I x (nI i).toNatClampNeg = 0 := of_decide_eq_true hb
            rw [hcl, (hv i hi8).1] at hb
            have hv0 : v i = 0 := (nI_eq (b := 0) (by have := (hv i hi8).2; omega) (by omega)).mp hb
            have hsj : ∀ n k, sj p v w u i n k = 0 := by
              intro n k
              induction n with
              | zero => rfl
              | succ n ihn =>
                show sj p v w u i n k + tij p v w u i n k = 0
                rw [ihn]
                unfold tij
                rw [hv0, Nat.zero_mul, Nat.zero_mod, Nat.zero_mul]
                split <;> rfl
            refine Rf.weak [(5, .int (nI (i + 1))), (4, .int (nI (2 ^ h))), (0, .ref T), (1, .ref x), (2, .ref y), (3, .ref out)] ⟨inc1 i, rfl, rfl, rfl, rfl, rfl, trivial⟩ (ih J2 ?_)
            rw [hJ2]
            refine jr_congr (fun k hk => ?_)
            show _ = si p v w u (2 ^ h) i k + sj p v w u i (2 ^ h) k
            rw [hsj, hsj]
          · refine Or.inr (And.intro ⟨hx.1, rc_in hx hi8⟩ ?_)
            refine Or.inr (And.intro ⟨hy.1, rc_in hy hj8⟩ ?_)
            refine And.intro hT ?_
            refine And.intro (by show ¬ I T 0 = 0; rw [hp]; exact nI_ne0 (by omega) hpn) ?_
            refine Or.inl ⟨by decide, ?_, ?_⟩
            · show inb (nI i &&& nI j) (K 0).1 = true
              rw [hK.1, and8 i hi8 j hj8]
              exact inb_n q1 (by omega)
            -- the inner loop
            generalize hwt : v i * w j % p = wt
            have hwtp : wt < p := by rw [← hwt]; exact Nat.mod_lt _ (by omega)
            have ewt : I x (nI i).toNatClampNeg * I y (nI j).toNatClampNeg - I x (nI i).toNatClampNeg * I y (nI j).toNatClampNeg / I T 0 * I T 0 = nI wt := by
              rw [hcl, hclj, (hv i hi8).1, (hw j hj8).1, hp, pk_mul, pk_rem _ (by omega) hpn, hwt]
              have h1 := (hv i hi8).2
              have h2 := (hw j hj8).2
              exact Nat.lt_of_le_of_lt (Nat.mul_le_mul (Nat.le_of_lt (Nat.lt_of_lt_of_le h1 hp2)) (Nat.le_of_lt (Nat.lt_of_lt_of_le h2 hp2))) (by decide)
            have esp : (K 0).2 (nI i &&& nI j).toNatClampNeg = nI (spn (i &&& j)) := by rw [and8 i hi8 j hj8, nI_clamp (by omega), hK.2 _ q1]
            have est : (nI i ^^^ nI j) &&& (-((K 0).2 (nI i &&& nI j).toNatClampNeg)) = nI (stt i j) := by rw [esp]; exact st8 i hi8 j hj8
            have ekp : (nI i * Int32.ofInt 8 + nI j) * Int32.ofInt 4 = nI ((i * 8 + j) * 4) := by
              rw [show Int32.ofInt 8 = nI 8 from rfl, show Int32.ofInt 4 = nI 4 from rfl, pk_mul, nI_add, pk_mul]
            refine Rf.weak [(11, .int (nI 0)), (10, .int (nI ((i * 8 + j) * 4))), (9, .int (nI (stt i j))), (8, .int (nI (spn (i &&& j)))), (7, .int (nI wt)), (6, .int (nI j)), (5, .int (nI i)), (4, .int (nI (2 ^ h))), (0, .ref T), (1, .ref x), (2, .ref y), (3, .ref out)] ⟨rfl, congrArg (fun z => some (Value.int z)) ekp, congrArg (fun z => some (Value.int z)) est, congrArg (fun z => some (Value.int z)) esp, congrArg (fun z => some (Value.int z)) ewt, rfl, rfl, rfl, rfl, rfl, rfl, rfl, trivial⟩ ?_
            have hfin : ∀ (m : Nat) (J3 : Nat → Nat → Int64), J3 = jr J sm9 (pmS (fun k => si p v w u (2 ^ h) i k + sj p v w u i j k) (stt i j) wt (fun t => u ((i * 8 + j) * 4 + t)) m) → (m = spn (i &&& j) ∨ wt = 0) → J3 = jr J sm9 (fun k => si p v w u (2 ^ h) i k + sj p v w u i (j + 1) k) := by
              intro m J3 hJ3 hm
              rw [hJ3]
              refine jr_congr (fun k hk => ?_)
              show si p v w u (2 ^ h) i k + sj p v w u i j k + _ = si p v w u (2 ^ h) i k + (sj p v w u i j k + tij p v w u i j k)
              unfold tij
              rw [hwt]
              rcases hm with rfl | rfl
              · exact Nat.add_assoc _ _ _
              · simp
            have inn : ∀ m, m ≤ spn (i &&& j) → ∀ J3 : Nat → Nat → Int64, J3 = jr J sm9 (pmS (fun k => si p v w u (2 ^ h) i k + sj p v w u i j k) (stt i j) wt (fun t => u ((i * 8 + j) * 4 + t)) m) → Rf K d mc_58 65 (lk [(11, .int (nI m)), (10, .int (nI ((i * 8 + j) * 4))), (9, .int (nI (stt i j))), (8, .int (nI (spn (i &&& j)))), (7, .int (nI wt)), (6, .int (nI j)), (5, .int (nI i)), (4, .int (nI (2 ^ h))), (0, .ref T), (1, .ref x), (2, .ref y), (3, .ref out)]) [] (St M I J3) post := by
              refine for_up (spn (i &&& j)) (fun J3 hJ3 => ?_) (fun m hm ihm J3 hJ3 => ?_)
              · refine Rf.go 100 [24] ?_
                refine And.intro (fun _ => ?_) (fun hb => absurd ((geN (by omega) (by omega)).mpr (Nat.le_refl _)) hb)
                exact Rf.weak [(6, .int (nI (j + 1))), (5, .int (nI i)), (4, .int (nI (2 ^ h))), (0, .ref T), (1, .ref x), (2, .ref y), (3, .ref out)] ⟨inc1 j, rfl, rfl, rfl, rfl, rfl, rfl, trivial⟩ (ihj J3 (hfin _ J3 hJ3 (Or.inl rfl)))
              · refine Rf.go 100 [24, 65] ?_
                refine And.intro (fun hb => absurd ((geN (by omega) (by omega)).mp hb) (by omega)) (fun _ => ?_)
                refine And.intro (fun hb => ?_) (fun hb => ?_)
                · have hb : nI wt = 0 := of_decide_eq_true hb
                  have hw0 : wt = 0 := (nI_eq (b := 0) (by omega) (by omega)).mp hb
                  exact Rf.weak [(6, .int (nI (j + 1))), (5, .int (nI i)), (4, .int (nI (2 ^ h))), (0, .ref T), (1, .ref x), (2, .ref y), (3, .ref out)] ⟨inc1 j, rfl, rfl, rfl, rfl, rfl, rfl, trivial⟩ (ihj J3 (hfin m J3 hJ3 (Or.inr hw0)))
                · have ek : nI (stt i j) + nI m = nI (stt i j + m) := nI_add _ _
                  have eu : nI ((i * 8 + j) * 4) + nI m = nI ((i * 8 + j) * 4 + m) := nI_add _ _
                  have hkc : (nI (stt i j) + nI m).toNatClampNeg = stt i j + m := by rw [ek, nI_clamp (by omega)]
                  have huc : (nI ((i * 8 + j) * 4) + nI m).toNatClampNeg = (i * 8 + j) * 4 + m := by rw [eu, nI_clamp (by omega)]
                  obtain ⟨hu1, hu2⟩ := hu i j hi hj m hm
                  refine And.intro hT ⟨sm9, hSR, ?_⟩
                  refine And.intro ⟨rfl, rfl⟩ ?_
                  refine And.intro ⟨hS.1, by show inb (nI (stt i j) + nI m) (mH M sm9).2 = true; rw [hS.2, ek]; exact inb_n (by omega) (by omega)⟩ ?_
                  refine And.intro hT ⟨U, hUR, ?_⟩
                  refine Or.inr (And.intro ⟨hU.1, by show inb (nI ((i * 8 + j) * 4) + nI m) (mH M U).2 = true; rw [hU.2, eu]; exact inb_n (by omega) (by omega)⟩ ?_)
                  refine And.intro ⟨hS.1, by show inb (nI (stt i j) + nI m) (mH M sm9).2 = true; rw [hS.2, ek]; exact inb_n (by omega) (by omega)⟩ ?_
                  refine Rf.weak [(11, .int (nI (m + 1))), (10, .int (nI ((i * 8 + j) * 4))), (9, .int (nI (stt i j))), (8, .int (nI (spn (i &&& j)))), (7, .int (nI wt)), (6, .int (nI j)), (5, .int (nI i)), (4, .int (nI (2 ^ h))), (0, .ref T), (1, .ref x), (2, .ref y), (3, .ref out)] ⟨inc1 m, rfl, rfl, rfl, rfl, rfl, rfl, rfl, rfl, rfl, rfl, rfl, trivial⟩ (ihm _ ?_)
                  show u2 J3 sm9 (nI (stt i j) + nI m).toNatClampNeg (J3 sm9 (nI (stt i j) + nI m).toNatClampNeg + (nI wt * I U (nI ((i * 8 + j) * 4) + nI m).toNatClampNeg).toInt64) = _
                  rw [hkc, huc, hu1, hJ3]
                  refine jr_put (by omega) ?_ (fun k hk hne => ?_)
                  · rw [jr_at (by omega), pk_mul, nI_l (by
                      exact Nat.lt_of_le_of_lt (Nat.mul_le_mul (Nat.le_of_lt (Nat.lt_of_lt_of_le hwtp hp2)) (Nat.le_of_lt (Nat.lt_of_lt_of_le hu2 hp2))) (by decide)), lN_add]
                    congr 1
                    unfold pmS
                    rw [if_neg (by omega), if_pos ⟨by omega, by omega⟩, Nat.add_sub_cancel_left, Nat.add_zero]
                  · unfold pmS
                    by_cases hc : stt i j ≤ k ∧ k < stt i j + m
                    · rw [if_pos hc, if_pos ⟨hc.1, by omega⟩]
                    · rw [if_neg hc, if_neg (by omega)]
            refine inn 0 (Nat.zero_le _) J2 ?_
            rw [hJ2]
            refine jr_congr (fun k hk => ?_)
            unfold pmS
            rw [if_neg (by omega)]
            rfl
      exact mid 0 (Nat.zero_le _) J1 (by rw [hJ1]; rfl)
  -- the sums are 0 at first
  have zero : ∀ i, i ≤ 8 → ∀ J1 : Nat → Nat → Int64, (∀ b, b ≠ sm9 → J1 b = J b) → (∀ k, k < i → J1 sm9 k = 0) → (∀ k, 8 ≤ k → J1 sm9 k = J sm9 k) → Rf K d mc_58 7 (lk [(5, .int (nI i)), (4, .int (nI (2 ^ h))), (0, .ref T), (1, .ref x), (2, .ref y), (3, .ref out)]) [] (St M I J1) post := by
    refine for_up 8 (fun J1 h1 h2 h3 => ?_) (fun i hi ih J1 h1 h2 h3 => ?_)
    · refine Rf.go 100 [19] ?_
      refine And.intro (fun _ => ?_) (fun hb => (ge8n hb).elim)
      refine Rf.weak [(5, .int (nI 0)), (4, .int (nI (2 ^ h))), (0, .ref T), (1, .ref x), (2, .ref y), (3, .ref out)] ⟨rfl, rfl, rfl, rfl, rfl, rfl, trivial⟩ (main 0 (Nat.zero_le _) J1 ?_)
      funext b
      unfold jr
      by_cases e : b = sm9
      · subst e
        rw [if_pos rfl]
        funext k
        by_cases hk : k < 8
        · rw [if_pos hk, h2 k hk]; rfl
        · rw [if_neg hk, h3 k (by omega)]
      · rw [if_neg e, h1 b e]
    · have hcl : (nI i).toNatClampNeg = i := nI_clamp (by omega)
      refine Rf.go 100 [7] ?_
      refine And.intro (fun hb => (ge8 hi hb).elim) (fun _ => ?_)
      refine And.intro hT ⟨sm9, hSR, ?_⟩
      refine And.intro ⟨hS.1, by show inb (nI i) (mH M sm9).2 = true; rw [hS.2]; exact inb_n hi (by omega)⟩ ?_
      refine Rf.weak [(5, .int (nI (i + 1))), (4, .int (nI (2 ^ h))), (0, .ref T), (1, .ref x), (2, .ref y), (3, .ref out)] ⟨inc1 i, rfl, rfl, rfl, rfl, rfl, trivial⟩ (ih _ ?_ ?_ ?_)
      · intro b hb
        show u2 J1 sm9 (nI i).toNatClampNeg (Int64.ofNat 0) b = J b
        rw [u2_ne hb, h1 b hb]
      · intro k hk
        show u2 J1 sm9 (nI i).toNatClampNeg (Int64.ofNat 0) sm9 k = 0
        rw [u2_eq, hcl]
        unfold va_up
        by_cases e : k = i
        · rw [if_pos e]; rfl
        · rw [if_neg e]; exact h2 k (by omega)
      · intro k hk
        show u2 J1 sm9 (nI i).toNatClampNeg (Int64.ofNat 0) sm9 k = J sm9 k
        rw [u2_eq, hcl]
        unfold va_up
        rw [if_neg (by omega)]
        exact h3 k hk
  exact zero 0 (by omega) J (fun b _ => rfl) (fun k hk => absurd hk (Nat.not_lt_zero k)) (fun k _ => rfl)
