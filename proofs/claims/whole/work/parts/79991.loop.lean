/-! the law's loop -/
theorem Rf.new {K : Ka} {d ci k : Nat} {code : List Instr} {L : Lf} {st : List Value} {M : Me} {post : Option Value → Me → Prop} (hc : code[k]? = some (.new ci)) (hci : ci < 6) (h : Rf K d code (k + 1) L (.ref (8 + mN M) :: st) (mNew M 1 (nf ci) (fun _ => (ci, 0)) (fun _ _ => none)) post) : Rf K d code k L st M post := fun lv hL => Rn.step hc rfl rfl (if_pos hci) (h lv hL)
theorem gtL {i L : Nat} (hi : i < 2 ^ 30) (hL : L < 2 ^ 30) : cmpI .gt (nI i) (nI L - Int32.ofInt 5) = true ↔ L < i + 5 := by
  have e1 : (nI L - Int32.ofInt 5).toInt = (L : Int) - 5 := pk_sub_toInt (a := L) (b := 5) hL (by decide)
  have e2 : (nI i).toInt = (i : Int) := by
    have e := pk_sub_toInt (a := i) (b := 0) hi (by decide)
    have e0 : nI i - nI 0 = nI i := pk_sub (Nat.zero_le i)
    rw [e0] at e
    omega
  constructor
  · intro q
    have q : nI L - Int32.ofInt 5 < nI i := of_decide_eq_true q
    rw [Int32.lt_iff_toInt_lt, e1, e2] at q
    omega
  · intro q
    refine decide_eq_true ?_
    rw [Int32.lt_iff_toInt_lt, e1, e2]
    omega
def Pst : Option Value → Me → Prop := fun r MF => r = some (.int 1) ∧ mN MF ≤ 600000 ∧ mS MF ≤ 7302249
theorem sw_hi : ∀ j, j < 32 → 17 ≤ j → 16 < (nI j).toInt := by decide
set_option maxHeartbeats 2000000 in
theorem L_sw {K : Ka} {i : Nat} (hK : Kst K) (ib : ∀ c : Int, 0 ≤ c → c < 5 → inb (nI i + Int32.ofInt c) (K 4).1 = true) (fin : ∀ M I J, Rel M I → Rf K 30 mc_168 431 (Lw i) [] (St M I J) Pst) {M : Me} {I : Nat → Nat → Int32} {J : Nat → Nat → Int64} (hR : Rel M I) (j : Nat) (hj : j < 32) : Rf K 30 mc_168 21 (Lw i) [.int (nI j)] (St M I J) Pst := by
  have wk : ∀ k, Rf K 30 mc_168 k (Lw i) [] (St M I J) Pst → Rf K 30 mc_168 k (Lw i) [] (St M I J) Pst := fun _ h => h
  by_cases c : 17 ≤ j
  · refine Rf.go 1 [431] ?_
    exact And.intro (fun _ => fin M I J hR) (fun q => absurd (Or.inr (sw_hi j hj c)) q)
  · rcases (show j = 0 ∨ j = 1 ∨ j = 2 ∨ j = 3 ∨ j = 4 ∨ j = 5 ∨ j = 6 ∨ j = 7 ∨ j = 8 ∨ j = 9 ∨ j = 10 ∨ j = 11 ∨ j = 12 ∨ j = 13 ∨ j = 14 ∨ j = 15 ∨ j = 16 by omega) with rfl | rfl | rfl | rfl | rfl | rfl | rfl | rfl | rfl | rfl | rfl | rfl | rfl | rfl | rfl | rfl | rfl
    · refine Rf.go 1 [22] ?_
      exact And.intro (fun q => absurd q (by decide)) (fun _ => ⟨_, rfl, L_prime hK ib hR fin⟩)
    · refine Rf.go 1 [39] ?_
      exact And.intro (fun q => absurd q (by decide)) (fun _ => ⟨_, rfl, L_why hR fin⟩)
    · refine Rf.go 1 [46] ?_
      exact And.intro (fun q => absurd q (by decide)) (fun _ => ⟨_, rfl, L_step hK ib hR fin⟩)
    · refine Rf.go 1 [93] ?_
      exact And.intro (fun q => absurd q (by decide)) (fun _ => ⟨_, rfl, L_back hR fin⟩)
    · refine Rf.go 1 [100] ?_
      exact And.intro (fun q => absurd q (by decide)) (fun _ => ⟨_, rfl, L_thing hK ib hR fin⟩)
    · refine Rf.go 1 [127] ?_
      exact And.intro (fun q => absurd q (by decide)) (fun _ => ⟨_, rfl, L_coord hK ib hR fin⟩)
    · refine Rf.go 1 [164] ?_
      exact And.intro (fun q => absurd q (by decide)) (fun _ => ⟨_, rfl, L_base hK ib hR fin⟩)
    · refine Rf.go 1 [191] ?_
      exact And.intro (fun q => absurd q (by decide)) (fun _ => ⟨_, rfl, L_one hK ib hR fin⟩)
    · refine Rf.go 1 [218] ?_
      exact And.intro (fun q => absurd q (by decide)) (fun _ => ⟨_, rfl, L_on hK ib hR fin⟩)
    · refine Rf.go 1 [245] ?_
      exact And.intro (fun q => absurd q (by decide)) (fun _ => ⟨_, rfl, L_way hK ib hR fin⟩)
    · refine Rf.go 1 [272] ?_
      exact And.intro (fun q => absurd q (by decide)) (fun _ => ⟨_, rfl, L_square hK ib hR fin⟩)
    · refine Rf.go 1 [299] ?_
      exact And.intro (fun q => absurd q (by decide)) (fun _ => ⟨_, rfl, L_degree hK ib hR fin⟩)
    · refine Rf.go 1 [316] ?_
      exact And.intro (fun q => absurd q (by decide)) (fun _ => ⟨_, rfl, L_coefficient hK ib hR fin⟩)
    · refine Rf.go 1 [343] ?_
      exact And.intro (fun q => absurd q (by decide)) (fun _ => ⟨_, rfl, L_conjugate hK ib hR fin⟩)
    · refine Rf.go 1 [380] ?_
      exact And.intro (fun q => absurd q (by decide)) (fun _ => ⟨_, rfl, L_order hK ib hR fin⟩)
    · refine Rf.go 1 [397] ?_
      exact And.intro (fun q => absurd q (by decide)) (fun _ => ⟨_, rfl, L_corners hK ib hR fin⟩)
    · refine Rf.go 1 [414] ?_
      exact And.intro (fun q => absurd q (by decide)) (fun _ => ⟨_, rfl, L_count hK ib hR fin⟩)
theorem L_loop {K : Ka} {L : Nat} (hK : Kst K) (hL : (K 4).1 = L) (hL2 : L ≤ 2560) : ∀ f i, i ≤ 2560 → L + 5 ≤ i + 5 * f → ∀ M I J, Rel M I → Rf K 30 mc_168 10 (Lw i) [] (St M I J) Pst := by
  intro f
  induction f with
  | zero =>
    intro i hi hf M I J hR
    obtain ⟨o, o2, p, iz, D, h, n, kd, tl, V, g, rm, -, -, -, -, -, -, -, hN, hS⟩ := hR
    refine Rf.go 20 [10] ?_
    refine And.intro (by decide) ?_
    refine And.intro (fun _ => ?_) (fun q => absurd ?_ q)
    · exact ⟨rfl, by show mN M ≤ 600000; omega, hS⟩
    · show cmpI .gt (nI i) (Int32.ofNat (K 4).1 - Int32.ofInt 5) = true
      rw [hL]
      exact (gtL (by omega) (by omega)).mpr (by omega)
  | succ f ih =>
    intro i hi hf M I J hR
    by_cases c : i + 5 ≤ L
    · have ib : ∀ c : Int, 0 ≤ c → c < 5 → inb (nI i + Int32.ofInt c) (K 4).1 = true := by
        intro c h0 h5
        rw [hL]
        rcases (show c = 0 ∨ c = 1 ∨ c = 2 ∨ c = 3 ∨ c = 4 by omega) with rfl | rfl | rfl | rfl | rfl
        · show inb (nI i + nI 0) L = true
          rw [nI_add]
          exact inb_n (by omega) (by omega)
        · show inb (nI i + nI 1) L = true
          rw [nI_add]
          exact inb_n (by omega) (by omega)
        · show inb (nI i + nI 2) L = true
          rw [nI_add]
          exact inb_n (by omega) (by omega)
        · show inb (nI i + nI 3) L = true
          rw [nI_add]
          exact inb_n (by omega) (by omega)
        · show inb (nI i + nI 4) L = true
          rw [nI_add]
          exact inb_n (by omega) (by omega)
      have fin : ∀ M I J, Rel M I → Rf K 30 mc_168 431 (Lw i) [] (St M I J) Pst := by
        intro M I J hR
        refine Rf.go 20 [10] ?_
        refine Rf.weak [(0, .ref 4), (1, .ref 8), (2, .ref 475), (3, .int (nI (i + 5)))] ⟨rfl, rfl, rfl, congrArg (fun z => some (Value.int z)) (nI_add i 5), trivial⟩ (ih (i + 5) (by omega) (by omega) M I J hR)
      obtain ⟨j, hj, e⟩ := pk_andE ((K 4).2 (nI i).toNatClampNeg) (m := Int32.ofInt 31) 5 (by decide)
      have w := L_sw (J := J) hK ib fin hR j hj
      rw [← e] at w
      refine Rf.go 20 [10, 21] ?_
      refine And.intro (by decide) ?_
      refine And.intro (fun q => ?_) (fun _ => ?_)
      · have q : cmpI .gt (nI i) (Int32.ofNat (K 4).1 - Int32.ofInt 5) = true := q
        rw [hL] at q
        exact absurd ((gtL (by omega) (by omega)).mp q) (by omega)
      · refine Or.inl ⟨by decide, ?_, w⟩
        show inb (nI i) (K 4).1 = true
        rw [hL]
        exact inb_n (by omega) (by omega)
    · obtain ⟨o, o2, p, iz, D, h, n, kd, tl, V, g, rm, -, -, -, -, -, -, -, hN, hS⟩ := hR
      refine Rf.go 20 [10, 21] ?_
      refine And.intro (by decide) ?_
      refine And.intro (fun _ => ?_) (fun q => absurd ?_ q)
      · exact ⟨rfl, by show mN M ≤ 600000; omega, hS⟩
      · show cmpI .gt (nI i) (Int32.ofNat (K 4).1 - Int32.ofInt 5) = true
        rw [hL]
        exact (gtL (by omega) (by omega)).mpr (by omega)
theorem rel_start {M2 : Me} (c1 : ckN M2) (c2 : ckH M2 37) (c3 : ckH M2 256) (c4 : ckI M2 37) (c5 : ckI M2 256) (c6 : ckC M2) (c7 : ckM M2) : Rel M2 (mI M2) := by
  refine ⟨37, 256, 3, ⟨by decide⟩, fun _ _ => 0, 0, 0, fun _ => 0, fun _ _ => 0, fun _ _ _ => 0, fun _ => 0, 0, ⟨CtM_of c1 c2 c3 c6, FcM_of c1 c6, MoM_of c1 c7⟩, CR_of c4 c6 _ _ _ _ _, MR_of c7 _ _ _ _ _, AS_of _ _ _ _ _ _, c5.tb, ⟨c6.2.2.2.2.2.1, c7.2.2.1.2.2.2.2, by decide⟩, ?_, c1.1, c1.2.1⟩
  rw [c6.2.2.2.2.2.2.1, c7.2.2.1.2.2.1]
/-- the law, from its first instruction on -/
theorem L_law {K : Ka} {L : Nat} (hK : Kst K) (hL : (K 4).1 = L) (hL2 : L ≤ 2560) : Rf K 30 mc_168 0 (lf0 0 [.ref 4]) [] Mz Pst := by
  obtain ⟨MA, M2, e1, hn, e2, c1, c2, c3, c4, c5, c6, c7⟩ := ck_split _ ev_ctor
  have e1 := pex_up (Nat.le_refl 2000) 6 30 72 _ _ _ (by decide) (pex_K (K := K) 6 72 _ _ _ (by decide) e1)
  have e2 := pex_up (Nat.le_refl 2000) 6 30 93 _ _ _ (by decide) (pex_K (K := K) 6 93 _ _ _ (by decide) e2)
  have lp := L_loop hK hL hL2 600 0 (by omega) (by omega) M2 (mI M2) (mJ M2) (rel_start c1 c2 c3 c4 c5 c6 c7)
  refine Rf.new rfl (by decide) ?_
  refine Rf.go 2 [3] ?_
  refine And.intro rfl ?_
  refine ⟨2000, none, MA, e1, ?_⟩
  refine Rf.go 1 [4] ?_
  refine Rf.new rfl (by decide) ?_
  rw [hn]
  refine Rf.go 2 [7] ?_
  refine And.intro rfl ?_
  refine ⟨2000, none, M2, e2, ?_⟩
  refine Rf.go 3 [10] ?_
  exact Rf.weak [(0, .ref 4), (1, .ref 8), (2, .ref 475), (3, .int (nI 0))] ⟨rfl, rfl, rfl, rfl, trivial⟩ lp
