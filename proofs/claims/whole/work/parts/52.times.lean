/-! The model's product -/
def tbF (p : Nat) [NeZero p] (D : Nat → Nat → Nat) (h i j k : Nat) : Nat := tV p D h ((TI p D h).mul (oV p D h (un i)) (oV p D h (un j))) k
/-- the model's numbers: prime, height, table -/
def MoI (I : Nat → Nat → Int32) (m p h : Nat) [NeZero p] (D : Nat → Nat → Nat) : Prop := I m 0 = nI p ∧ I m 1 = nI h ∧ h ≤ 3 ∧ (3 ≤ p ∧ p ≤ 32749) ∧ ∀ i j k, i < 2 ^ h → j < 2 ^ h → k < 8 → I (m + 9) (64 * i + 8 * j + k) = nI (tbF p D h i j k)
theorem sN_le {f : Nat → Nat} {B : Nat} : ∀ {n : Nat}, (∀ i, i < n → f i ≤ B) → sN f n ≤ n * B
  | 0, _ => Nat.zero_le _
  | n + 1, h => by
    have h1 := sN_le (n := n) (fun i hi => h i (by omega))
    have h2 := h n (by omega)
    show sN f n + f n ≤ (n + 1) * B
    rw [Nat.succ_mul]
    omega
theorem sN_0 {f : Nat → Nat} : ∀ {n : Nat}, (∀ i, i < n → f i = 0) → sN f n = 0
  | 0, _ => rfl
  | n + 1, h => by
    show sN f n + f n = 0
    rw [sN_0 (n := n) (fun i hi => h i (by omega)), h n (by omega)]
theorem sN_ext {f : Nat → Nat} {n : Nat} : ∀ {k : Nat}, (∀ i, n ≤ i → f i = 0) → sN f (n + k) = sN f n
  | 0, _ => rfl
  | k + 1, h => by
    show sN f (n + k) + f (n + k) = sN f n
    rw [sN_ext (k := k) h, h (n + k) (by omega), Nat.add_zero]
def twS (p : Nat) (v w : Nat → Nat) (T : Nat → Nat → Nat → Nat) (i k : Nat) (n : Nat) : Nat := sN (fun b => (v i * w b % p) * T i b k) n
def tmS (p : Nat) (v w : Nat → Nat) (T : Nat → Nat → Nat → Nat) (k n : Nat) : Nat := sN (fun a => twS p v w T a k 8) n
theorem tmS_ok {p : Nat} [NeZero p] {D : Nat → Nat → Nat} {h : Nat} (hh : h ≤ 3) (X Y : TR p D h) (k : Nat) : tmS p (tV p D h X) (tV p D h Y) (tbF p D h) k 8 % p = tV p D h ((TI p D h).mul X Y) k := by
  have hw := w8 hh
  have e := oV_mul (p := p) (D := D) h (tV p D h X) (tV p D h Y) k
  rw [oV_tV, oV_tV] at e
  rw [e]
  have e1 : tmS p (tV p D h X) (tV p D h Y) (tbF p D h) k 8 = sN (fun a => sN (fun b => (tV p D h X a * tV p D h Y b % p) * tbF p D h a b k) (2 ^ h)) (2 ^ h) := by
    unfold tmS twS
    have e8 : (8 : Nat) = 2 ^ h + (8 - 2 ^ h) := by omega
    rw [e8, sN_ext (fun i hi => sN_0 (fun b _ => by rw [tV_hi hi, Nat.zero_mul, Nat.zero_mod, Nat.zero_mul]))]
    refine sN_congr (fun a _ => ?_)
    exact sN_ext (fun b hb => by rw [tV_hi (x := Y) hb, Nat.mul_zero, Nat.zero_mod, Nat.zero_mul])
  rw [e1]
  refine sN_cm (fun a _ => ?_)
  refine sN_cm (fun b _ => ?_)
  show (tV p D h X a * tV p D h Y b % p) * tbF p D h a b k % p = tV p D h X a * tV p D h Y b * tbF p D h a b k % p
  rw [Nat.mod_mul_mod]
section Mt
variable {K : Ka} {d m p h r a b : Nat} {M : Me} {I : Nat → Nat → Int32} {J : Nat → Nat → Int64} {D : Nat → Nat → Nat} {G : Nat → Nat → Int32}
theorem ix64e {i j k : Nat} : Int32.ofInt 64 * nI i + Int32.ofInt 8 * nI j + nI k = nI (64 * i + 8 * j + k) := by rw [show Int32.ofInt 64 = nI 64 from rfl, show Int32.ofInt 8 = nI 8 from rfl, pk_mul, pk_mul, nI_add, nI_add]
theorem l0N {n : Nat} (h : n < 2 ^ 31) : cmpI .le (nI n) 0 = true ↔ n = 0 := le0N h
set_option maxHeartbeats 8000000 in
theorem m_times [NeZero p] {d' : Nat} {z1 z2 z3 : Int32} {X Y : TR p D h} {post : Option Value → Me → Prop} (hM : MoM M m) (hI : MoI I m p h D) (hz1 : z1 = nI r) (hz2 : z2 = nI a) (hz3 : z3 = nI b) (hr : r < 64) (ha : a < 64) (hb : b < 64) (hX : G a = vE p D h X) (hY : G b = vE p D h Y) (hd : d + 1 ≤ d') (hp : ∀ J1, post none (St M (rg I m (fu G r (vE p D h ((TI p D h).mul X Y)))) J1)) : Ok K d' 104 [.ref m, .int z1, .int z2, .int z3] (St M (rg I m G) J) post := by
  refine Ok.up (d := d + 1) (post := post) ?_ hd (fun _ _ h => h)
  subst hz1 hz2 hz3
  obtain ⟨hp0, -, hh3, ⟨hp3, hpb⟩, htab⟩ := hI
  have hw8 := w8 hh3
  refine Ok.go (e := me_104) rfl rfl (Nat.le_of_ble_eq_true rfl) hM.c ?_
  have hvl : ∀ j, tV p D h X j < p := fun j => tV_lt
  have hwl : ∀ j, tV p D h Y j < p := fun j => tV_lt
  have hvhi : ∀ j, 2 ^ h ≤ j → tV p D h X j = 0 := fun j hj => tV_hi hj
  have hwhi : ∀ j, 2 ^ h ≤ j → tV p D h Y j = 0 := fun j hj => tV_hi hj
  have hT : ∀ i j k, tbF p D h i j k < p := fun i j k => tV_lt
  have hres : ∀ k, vE p D h ((TI p D h).mul X Y) k = nI (tmS p (tV p D h X) (tV p D h Y) (tbF p D h) k 8 % p) := fun k => by
    rw [tmS_ok hh3]
    rfl
  have hX : ∀ j, G a j = nI (tV p D h X j) := fun j => by rw [hX]; rfl
  have hY : ∀ j, G b j = nI (tV p D h Y j) := fun j => by rw [hY]; rfl
  generalize tV p D h X = v at hvl hvhi hX hres
  generalize tV p D h Y = w at hwl hwhi hY hres
  generalize tbF p D h = T at hT htab hres
  generalize vE p D h ((TI p D h).mul X Y) = R at hres hp
  have hpn : p < 2 ^ 31 := by omega
  have hp0' : ¬ lN p = 0 := fun q => by
    have := (lN_eq (a := p) (b := 0) hpn (by omega)).mp q
    omega
  have tle : ∀ i j k, (v i * w j % p) * T i j k ≤ 2 ^ 30 := fun i j k => by
    have h1 : v i * w j % p < p := Nat.mod_lt _ (by omega)
    have h2 := hT i j k
    exact Nat.le_trans (Nat.mul_le_mul (show v i * w j % p ≤ 32749 by omega) (show T i j k ≤ 32749 by omega)) (by decide)
  have sle : ∀ i k n, n ≤ 8 → twS p v w T i k n ≤ 8 * 2 ^ 30 := fun i k n hn => Nat.le_trans (sN_le (fun b _ => tle i b k)) (Nat.mul_le_mul_right _ hn)
  have mle : ∀ k n, n ≤ 8 → tmS p v w T k n ≤ 8 * (8 * 2 ^ 30) := fun k n hn => Nat.le_trans (sN_le (fun i _ => sle i k 8 (Nat.le_refl 8))) (Nat.mul_le_mul_right _ hn)
  generalize hpost : (fun (r : Option Value) (M1 : Me) => rok me_104.2.2.2.1 r = true ∧ post r M1) = pst9
  -- the last loop
  have last : ∀ J1 : Nat → Nat → Int64, (∀ k, k < 8 → J1 (m + 12) k = lN (tmS p v w T k 8)) → Rf K d mc_104 89 (lk [(4, .int (nI 0)), (0, .ref m), (1, .int (nI r))]) [] (St M (rg I m G) J1) pst9 := by
    intro J1 hJ1
    have key : ∀ i, i ≤ 8 → Rf K d mc_104 89 (lk [(4, .int (nI i)), (0, .ref m), (1, .int (nI r))]) [] (St M (rg I m (gN G r i R)) J1) pst9 := by
      refine for_up 8 ?_ (fun i hi ih => ?_)
      · refine Rf.go 100 [89] ?_
        rw [← hpost]
        refine And.intro (fun _ => ⟨rfl, ?_⟩) (fun hb => (ge8n hb).elim)
        have := hp J1
        rw [← rg_8] at this
        exact this
      · have hcl : (nI i).toNatClampNeg = i := nI_clamp (by omega)
        refine Rf.go 100 [89] ?_
        refine And.intro (fun hb => (ge8 hi hb).elim) (fun _ => ?_)
        refine And.intro hM.c ⟨m + 11, hM.r14, ?_⟩
        refine And.intro hM.c ⟨m + 12, hM.r15, ?_⟩
        refine And.intro ⟨hM.as.1, by show inb (nI i) (mH M (m + 12)).2 = true; rw [hM.as.2]; exact inb_n hi (by omega)⟩ ?_
        refine And.intro hM.c ?_
        have hpe : (rg I m (gN G r i R) m 0).toInt64 = lN p := by rw [rg_m, hp0, nI_l hpn]
        refine And.intro (by show ¬ (rg I m (gN G r i R) m 0).toInt64 = 0; rw [hpe]; exact hp0') ?_
        refine And.intro ⟨hM.rcg, hM.ing hr hi⟩ ?_
        refine Rf.weak [(4, .int (nI (i + 1))), (0, .ref m), (1, .int (nI r))] ⟨inc1 i, rfl, rfl, trivial⟩ (Rf.rgS hr hi ?_ ih)
        show (J1 (m + 12) (nI i).toNatClampNeg - J1 (m + 12) (nI i).toNatClampNeg / (rg I m (gN G r i R) m 0).toInt64 * (rg I m (gN G r i R) m 0).toInt64).toInt32 = R i
        rw [hpe, hcl, hJ1 i hi, pk_lRem (Nat.lt_of_le_of_lt (mle i 8 (Nat.le_refl 8)) (by decide)) (by omega) (by omega), lN_i, hres]
    have := key 0 (by omega)
    rw [gN_0] at this
    exact this
  -- the loops over i and j
  have main : ∀ i, i ≤ 8 → ∀ J1 : Nat → Nat → Int64, J1 = jr J (m + 12) (fun k => tmS p v w T k i) → Rf K d mc_104 14 (lk [(4, .int (nI i)), (0, .ref m), (1, .int (nI r)), (2, .int (nI a)), (3, .int (nI b))]) [] (St M (rg I m G) J1) pst9 := by
    refine for_up 8 (fun J1 hJ1 => ?_) (fun i hi ih J1 hJ1 => ?_)
    · refine Rf.go 100 [89] ?_
      refine And.intro (fun _ => ?_) (fun hb => (ge8n hb).elim)
      refine Rf.weak [(4, .int (nI 0)), (0, .ref m), (1, .int (nI r))] ⟨rfl, rfl, rfl, trivial⟩ (last J1 (fun k hk => ?_))
      rw [hJ1, jr_at hk]
    · refine Rf.go 100 [28] ?_
      refine And.intro (fun hb => (ge8 hi hb).elim) (fun _ => ?_)
      refine And.intro hM.c ⟨m + 11, hM.r14, ?_⟩
      refine Or.inr (And.intro ⟨hM.rcg, hM.ing ha hi⟩ ?_)
      refine Rf.weak [(6, .int (nI 0)), (5, .int (nI (v i))), (4, .int (nI i)), (0, .ref m), (1, .int (nI r)), (2, .int (nI a)), (3, .int (nI b))] ⟨rfl, congrArg (fun z => some (Value.int z)) ((rdr ha hi).trans (hX i)), rfl, rfl, rfl, rfl, rfl, trivial⟩ ?_
      have mid : ∀ j, j ≤ 8 → ∀ J2 : Nat → Nat → Int64, J2 = jr J (m + 12) (fun k => tmS p v w T k i + twS p v w T i k j) → Rf K d mc_104 28 (lk [(6, .int (nI j)), (5, .int (nI (v i))), (4, .int (nI i)), (0, .ref m), (1, .int (nI r)), (2, .int (nI a)), (3, .int (nI b))]) [] (St M (rg I m G) J2) pst9 := by
        refine for_up 8 (fun J2 hJ2 => ?_) (fun j hj ihj J2 hJ2 => ?_)
        · refine Rf.go 100 [14] ?_
          refine And.intro (fun _ => ?_) (fun hb => (ge8n hb).elim)
          exact Rf.weak [(4, .int (nI (i + 1))), (0, .ref m), (1, .int (nI r)), (2, .int (nI a)), (3, .int (nI b))] ⟨inc1 i, rfl, rfl, rfl, rfl, trivial⟩ (ih J2 hJ2)
        · have hvi := hvl i
          have hwj := hwl j
          refine Rf.go 100 [14, 56, 83] ?_
          refine And.intro (fun hb => (ge8 hj hb).elim) (fun _ => ?_)
          refine And.intro (fun hc => ?_) (fun hc => ?_)
          · have hv0 := (l0N (by omega)).mp hc
            have hz : ∀ n k, twS p v w T i k n = 0 := fun n k => sN_0 (fun b _ => by rw [hv0, Nat.zero_mul, Nat.zero_mod, Nat.zero_mul])
            refine Rf.weak [(4, .int (nI (i + 1))), (0, .ref m), (1, .int (nI r)), (2, .int (nI a)), (3, .int (nI b))] ⟨inc1 i, rfl, rfl, rfl, rfl, trivial⟩ (ih J2 ?_)
            rw [hJ2]
            refine jr_congr (fun k hk => ?_)
            show _ = tmS p v w T k i + twS p v w T i k 8
            rw [hz, hz]
          · have hv0 : v i ≠ 0 := fun q => hc ((l0N (by omega)).mpr q)
            have hi2 : i < 2 ^ h := by
              apply Classical.byContradiction
              intro q
              exact hv0 (hvhi i (by omega))
            refine And.intro hM.c ⟨m + 11, hM.r14, ?_⟩
            refine Or.inr (And.intro ⟨hM.rcg, hM.ing hb hj⟩ ?_)
            have ey : rg I m G (m + 11) (Int32.ofInt 8 * nI b + nI j).toNatClampNeg = nI (w j) := (rdr hb hj).trans (hY j)
            -- from place 83 on
            have tail : ∀ J3 : Nat → Nat → Int64, J3 = jr J (m + 12) (fun k => tmS p v w T k i + twS p v w T i k (j + 1)) → Rf K d mc_104 83 (lk [(6, .int (nI j)), (5, .int (nI (v i))), (4, .int (nI i)), (0, .ref m), (1, .int (nI r)), (2, .int (nI a)), (3, .int (nI b))]) [] (St M (rg I m G) J3) pst9 := by
              intro J3 hJ3
              refine Rf.go 100 [28] ?_
              exact Rf.weak [(6, .int (nI (j + 1))), (5, .int (nI (v i))), (4, .int (nI i)), (0, .ref m), (1, .int (nI r)), (2, .int (nI a)), (3, .int (nI b))] ⟨inc1 j, rfl, rfl, rfl, rfl, rfl, rfl, trivial⟩ (ihj J3 hJ3)
            refine And.intro (fun hq => ?_) (fun hq => ?_)
            · have hq : cmpI .le (rg I m G (m + 11) (Int32.ofInt 8 * nI b + nI j).toNatClampNeg) 0 = true := hq
              rw [ey] at hq
              have hw0 := (l0N (by omega)).mp hq
              refine Rf.weak [(6, .int (nI j)), (5, .int (nI (v i))), (4, .int (nI i)), (0, .ref m), (1, .int (nI r)), (2, .int (nI a)), (3, .int (nI b))] ⟨rfl, rfl, rfl, rfl, rfl, rfl, rfl, trivial⟩ (tail J2 ?_)
              rw [hJ2]
              refine jr_congr (fun k hk => ?_)
              show _ = tmS p v w T k i + (twS p v w T i k j + (v i * w j % p) * T i j k)
              rw [hw0, Nat.mul_zero, Nat.zero_mod, Nat.zero_mul, Nat.add_zero]
            · have hq : ¬ cmpI .le (rg I m G (m + 11) (Int32.ofInt 8 * nI b + nI j).toNatClampNeg) 0 = true := hq
              rw [ey] at hq
              have hw0 : w j ≠ 0 := fun q => hq ((l0N (by omega)).mpr q)
              have hj2 : j < 2 ^ h := by
                apply Classical.byContradiction
                intro q
                exact hw0 (hwhi j (by omega))
              refine And.intro hM.c ?_
              have hpe : (rg I m G m 0).toInt64 = lN p := by rw [rg_m, hp0, nI_l hpn]
              refine And.intro (by show ¬ (rg I m G m 0).toInt64 = 0; rw [hpe]; exact hp0') ?_
              have ewt : (nI (v i)).toInt64 * (rg I m G (m + 11) (Int32.ofInt 8 * nI b + nI j).toNatClampNeg).toInt64 - (nI (v i)).toInt64 * (rg I m G (m + 11) (Int32.ofInt 8 * nI b + nI j).toNatClampNeg).toInt64 / (rg I m G m 0).toInt64 * (rg I m G m 0).toInt64 = lN (v i * w j % p) := by
                rw [ey, hpe, nI_l (by omega), nI_l (by omega), lN_mul, pk_lRem (Nat.lt_of_le_of_lt (Nat.mul_le_mul (show v i ≤ 32749 by omega) (show w j ≤ 32749 by omega)) (by decide)) (by omega) (by omega)]
              have hwt : v i * w j % p < p := Nat.mod_lt _ (by omega)
              -- the inner loop
              have inn : ∀ k, k ≤ 8 → ∀ J3 : Nat → Nat → Int64, J3 = jr J (m + 12) (fun q => tmS p v w T q i + (twS p v w T i q j + if q < k then (v i * w j % p) * T i j q else 0)) → Rf K d mc_104 56 (lk [(10, .int (nI k)), (8, .long (lN (v i * w j % p))), (6, .int (nI j)), (5, .int (nI (v i))), (4, .int (nI i)), (0, .ref m), (1, .int (nI r)), (2, .int (nI a)), (3, .int (nI b))]) [] (St M (rg I m G) J3) pst9 := by
                refine for_up 8 (fun J3 hJ3 => ?_) (fun k hk ihk J3 hJ3 => ?_)
                · refine Rf.go 100 [83] ?_
                  refine And.intro (fun _ => ?_) (fun hb => (ge8n hb).elim)
                  refine Rf.weak [(6, .int (nI j)), (5, .int (nI (v i))), (4, .int (nI i)), (0, .ref m), (1, .int (nI r)), (2, .int (nI a)), (3, .int (nI b))] ⟨rfl, rfl, rfl, rfl, rfl, rfl, rfl, trivial⟩ (tail J3 ?_)
                  rw [hJ3]
                  refine jr_congr (fun q hq => ?_)
                  rw [if_pos hq]
                  rfl
                · have hcl : (nI k).toNatClampNeg = k := nI_clamp (by omega)
                  have hTk := hT i j k
                  refine Rf.go 100 [56, 83] ?_
                  refine And.intro (fun hb => (ge8 hk hb).elim) (fun _ => ?_)
                  refine And.intro hM.c ⟨m + 12, hM.r15, ?_⟩
                  refine And.intro ⟨rfl, rfl⟩ ?_
                  refine And.intro ⟨hM.as.1, by show inb (nI k) (mH M (m + 12)).2 = true; rw [hM.as.2]; exact inb_n hk (by omega)⟩ ?_
                  refine And.intro hM.c ⟨m + 9, hM.r12, ?_⟩
                  refine Or.inr (And.intro ⟨(hM.a512 (a := m + 9) (by omega)).1, ?_⟩ ?_)
                  · show inb (Int32.ofInt 64 * nI i + Int32.ofInt 8 * nI j + nI k) (mH M (m + 9)).2 = true
                    rw [ix64e, (hM.a512 (a := m + 9) (by omega)).2]
                    exact inb_n (by omega) (by omega)
                  refine And.intro ⟨hM.as.1, by show inb (nI k) (mH M (m + 12)).2 = true; rw [hM.as.2]; exact inb_n hk (by omega)⟩ ?_
                  refine Rf.weak [(10, .int (nI (k + 1))), (8, .long (lN (v i * w j % p))), (6, .int (nI j)), (5, .int (nI (v i))), (4, .int (nI i)), (0, .ref m), (1, .int (nI r)), (2, .int (nI a)), (3, .int (nI b))] ⟨inc1 k, rfl, rfl, rfl, rfl, rfl, rfl, rfl, rfl, trivial⟩ (ihk _ ?_)
                  show u2 J3 (m + 12) (nI k).toNatClampNeg (J3 (m + 12) (nI k).toNatClampNeg + lN (v i * w j % p) * (rg I m G (m + 9) (Int32.ofInt 64 * nI i + Int32.ofInt 8 * nI j + nI k).toNatClampNeg).toInt64) = _
                  rw [hcl, ix64e, nI_clamp (by omega), rg_ne (by omega), htab i j k hi2 hj2 hk, nI_l (by omega), lN_mul, hJ3]
                  refine jr_put hk ?_ (fun q hq hne => ?_)
                  · rw [jr_at hk, if_neg (Nat.lt_irrefl k), if_pos (Nat.lt_succ_self k), lN_add, Nat.add_zero, Nat.add_assoc]
                  · by_cases e : q < k
                    · rw [if_pos e, if_pos (by omega)]
                    · rw [if_neg e, if_neg (by omega)]
              refine Rf.weak [(10, .int (nI 0)), (8, .long (lN (v i * w j % p))), (6, .int (nI j)), (5, .int (nI (v i))), (4, .int (nI i)), (0, .ref m), (1, .int (nI r)), (2, .int (nI a)), (3, .int (nI b))] ⟨rfl, congrArg (fun z => some (Value.long z)) ewt, rfl, rfl, rfl, rfl, rfl, rfl, rfl, trivial⟩ (inn 0 (Nat.zero_le _) J2 ?_)
              rw [hJ2]
              refine jr_congr (fun q hq => ?_)
              rw [if_neg (Nat.not_lt_zero q), Nat.add_zero]
      exact mid 0 (Nat.zero_le _) J1 (by rw [hJ1]; rfl)
  -- the sums are 0 at first
  have zero : ∀ i, i ≤ 8 → ∀ J1 : Nat → Nat → Int64, (∀ b, b ≠ m + 12 → J1 b = J b) → (∀ k, k < i → J1 (m + 12) k = 0) → (∀ k, 8 ≤ k → J1 (m + 12) k = J (m + 12) k) → Rf K d mc_104 2 (lk [(4, .int (nI i)), (0, .ref m), (1, .int (nI r)), (2, .int (nI a)), (3, .int (nI b))]) [] (St M (rg I m G) J1) pst9 := by
    refine for_up 8 (fun J1 h1 h2 h3 => ?_) (fun i hi ih J1 h1 h2 h3 => ?_)
    · refine Rf.go 100 [14] ?_
      refine And.intro (fun _ => ?_) (fun hb => (ge8n hb).elim)
      refine Rf.weak [(4, .int (nI 0)), (0, .ref m), (1, .int (nI r)), (2, .int (nI a)), (3, .int (nI b))] ⟨rfl, rfl, rfl, rfl, rfl, trivial⟩ (main 0 (Nat.zero_le _) J1 ?_)
      funext c
      unfold jr
      by_cases e : c = m + 12
      · rw [if_pos e]
        funext k
        rw [e]
        by_cases hk : k < 8
        · rw [if_pos hk, h2 k hk]; rfl
        · rw [if_neg hk, h3 k (by omega)]
      · rw [if_neg e, h1 c e]
    · have hcl : (nI i).toNatClampNeg = i := nI_clamp (by omega)
      refine Rf.go 100 [2] ?_
      refine And.intro (fun hb => (ge8 hi hb).elim) (fun _ => ?_)
      refine And.intro hM.c ⟨m + 12, hM.r15, ?_⟩
      refine And.intro ⟨hM.as.1, by show inb (nI i) (mH M (m + 12)).2 = true; rw [hM.as.2]; exact inb_n hi (by omega)⟩ ?_
      refine Rf.weak [(4, .int (nI (i + 1))), (0, .ref m), (1, .int (nI r)), (2, .int (nI a)), (3, .int (nI b))] ⟨inc1 i, rfl, rfl, rfl, rfl, trivial⟩ (ih _ ?_ ?_ ?_)
      · intro c hc
        show u2 J1 (m + 12) (nI i).toNatClampNeg (Int64.ofNat 0) c = J c
        rw [u2_ne hc, h1 c hc]
      · intro k hk
        show u2 J1 (m + 12) (nI i).toNatClampNeg (Int64.ofNat 0) (m + 12) k = 0
        rw [u2_eq, hcl]
        unfold va_up
        by_cases e : k = i
        · rw [if_pos e]; rfl
        · rw [if_neg e]; exact h2 k (by omega)
      · intro k hk
        show u2 J1 (m + 12) (nI i).toNatClampNeg (Int64.ofNat 0) (m + 12) k = J (m + 12) k
        rw [u2_eq, hcl]
        unfold va_up
        rw [if_neg (by omega)]
        exact h3 k hk
  refine Rf.go 100 [2] ?_
  exact Rf.weak [(4, .int (nI 0)), (0, .ref m), (1, .int (nI r)), (2, .int (nI a)), (3, .int (nI b))] ⟨rfl, rfl, rfl, rfl, rfl, trivial⟩ (zero 0 (by omega) J (fun b _ => rfl) (fun k hk => absurd hk (Nat.not_lt_zero k)) (fun k _ => rfl))
end Mt
