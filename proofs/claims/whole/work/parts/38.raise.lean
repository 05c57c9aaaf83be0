/-! Tower.raise, levels, Tower.isResidue, Tower.degreeOf -/
theorem lvU_le (f : Nat → Int32) : ∀ n, n ≤ 8 → lvU f n ≤ 3
  | 0, _ => Nat.zero_le 3
  | n + 1, hn => by
    show (if n = 0 ∨ f n = 0 then lvU f n else 32 - nlz n) ≤ 3
    split
    · exact lvU_le f n (by omega)
    · unfold nlz
      split <;> omega
theorem nlz_lv : ∀ n, n < 8 → 1 ≤ n → 2 ^ (32 - nlz n - 1) ≤ n ∧ n < 2 ^ (32 - nlz n) := by decide
theorem lvU_sp (f : Nat → Int32) : ∀ n, n ≤ 8 → (∀ j, j < n → 2 ^ lvU f n ≤ j → f j = 0) ∧ (lvU f n = 0 ∨ ∃ j, j < n ∧ 2 ^ (lvU f n - 1) ≤ j ∧ ¬ f j = 0)
  | 0, _ => ⟨fun j hj => absurd hj (Nat.not_lt_zero j), Or.inl rfl⟩
  | n + 1, hn => by
    obtain ⟨h1, h2⟩ := lvU_sp f n (by omega)
    by_cases hc : n = 0 ∨ f n = 0
    · have e : lvU f (n + 1) = lvU f n := if_pos hc
      rw [e]
      refine ⟨fun j hj hl => ?_, ?_⟩
      · by_cases ej : j = n
        · rcases hc with q | q
          · have : 1 ≤ 2 ^ lvU f n := Nat.pow_pos (by decide)
            omega
          · rw [ej]; exact q
        · exact h1 j (by omega) hl
      · rcases h2 with q | ⟨j, q⟩
        · exact Or.inl q
        · exact Or.inr ⟨j, by omega, q.2⟩
    · have e : lvU f (n + 1) = 32 - nlz n := if_neg hc
      rw [e]
      obtain ⟨q1, q2⟩ := nlz_lv n (by omega) (by omega)
      exact ⟨fun j hj hl => absurd hl (by omega), Or.inr ⟨n, by omega, q1, fun q => hc (Or.inr q)⟩⟩
section Rs
variable {K : Ka} {d T x y out p h : Nat} {M : Me} {I : Nat → Nat → Int32} {J : Nat → Nat → Int64} {D : Nat → Nat → Nat}
theorem lvU_Lev [NeZero p] {X : TR p D h} (hh : h ≤ 3) (hp : p ≤ 32749) (hX : Re I p D h x X) : Lev p D h X (lvU (I x) 8) ∧ lvU (I x) 8 ≤ h := by
  have hw := w8 hh
  have hv : ∀ j, j < 8 → (I x j = 0 ↔ tV p D h X j = 0) := fun j hj => by
    have h1 := tV_lt (p := p) (D := D) (x := X) (j := j)
    rw [hX j hj]
    exact nI_eq (b := 0) (by omega) (by omega)
  obtain ⟨h1, h2⟩ := lvU_sp (I x) 8 (by omega)
  have hle : lvU (I x) 8 ≤ h := by
    rcases h2 with q | ⟨j, q1, q2, q3⟩
    · omega
    · apply Classical.byContradiction
      intro hc
      have : 2 ^ h ≤ 2 ^ (lvU (I x) 8 - 1) := Nat.pow_le_pow_right (by decide) (by omega)
      exact q3 ((hv j q1).mpr (tV_hi (by omega)))
  refine ⟨⟨fun j hj => ?_, fun k hk hc => ?_⟩, hle⟩
  · by_cases hj8 : j < 8
    · exact (hv j hj8).mp (h1 j hj8 hj)
    · exact tV_hi (by omega)
  · rcases h2 with q | ⟨j, q1, q2, q3⟩
    · omega
    · have : 2 ^ k ≤ 2 ^ (lvU (I x) 8 - 1) := Nat.pow_le_pow_right (by decide) (by omega)
      exact q3 ((hv j q1).mpr (hc j (by omega)))
theorem Lev.uniq [NeZero p] {X : TR p D h} {L L' : Nat} (h1 : Lev p D h X L) (h2 : Lev p D h X L') : L = L' := by
  apply Classical.byContradiction
  intro hne
  rcases Nat.lt_or_gt_of_ne hne with q | q
  · exact h2.2 L q h1.1
  · exact h1.2 L' q h2.1
theorem t_degreeOf (hT : isC M T 3 = true) (hx : rc M x) : Ok K (d + 3) 53 [.ref T, .ref x] (St M I J) (fun r M1 => r = some (.int (nI (2 ^ lvU (I x) 8))) ∧ M1 = St M I J) := by
  refine Ok.go (e := me_53) rfl rfl (Nat.le_of_ble_eq_true rfl) hT ?_
  refine Rf.go 100 [] ?_
  refine (t_levelOf hT hx).up (Nat.le_refl _) ?_
  rintro r M1 ⟨rfl, rfl⟩
  exact ⟨rfl, congrArg (fun z => some (Value.int z)) (shl1 _ (lvU_le _ 8 (by omega))), rfl⟩
set_option maxHeartbeats 2000000 in
theorem e_raise [NeZero p] {n : Nat} {X : TR p D h} (hK : Ksp K) (hT : TwM M T) (hI : TwI I T p h D) (hx : rc M x) (ho : rc M out) (hX : Re I p D h x X) (hn : n < 2 ^ 31) (fo : out < T ∨ T + 24 ≤ out) : Ok K (d + 2) 59 [.ref T, .ref x, .int (nI n), .ref out] (St M I J) (fun r M1 => r = none ∧ ∃ I1 J1, M1 = St M I1 J1 ∧ Re I1 p D h out (@pw (TR p D h) (TI p D h) X n) ∧ ∀ a, a ≠ out → a ≠ T + 10 → I1 a = I a) := by
  have hTc := hT.1
  obtain ⟨hR5, hR6, hR7, hR8⟩ := hT.2.2.2.2.1
  have r10 : rc M (T + 10) := hT.2.2.2.2.2.2 _ (Or.inr (Or.inl ⟨by omega, by omega⟩))
  have hh3 := hI.2.2.1
  refine Ok.go (e := me_59) rfl rfl (Nat.le_of_ble_eq_true rfl) hTc ?_
  generalize hpost : (fun (r : Option Value) (M1 : Me) => rok me_59.2.2.2.1 r = true ∧ r = none ∧ ∃ I1 J1, M1 = St M I1 J1 ∧ Re I1 p D h out (@pw (TR p D h) (TI p D h) X n) ∧ ∀ a, a ≠ out → a ≠ T + 10 → I1 a = I a) = post
  have key : ∀ e, e < 2 ^ 31 → ∀ (I1 : Nat → Nat → Int32) (J1 : Nat → Nat → Int64) (R F : TR p D h), (∀ a, a ≠ out → a ≠ T + 10 → I1 a = I a) → Re I1 p D h out R → Re I1 p D h (T + 10) F → (TI p D h).mul R (@pw (TR p D h) (TI p D h) F e) = @pw (TR p D h) (TI p D h) X n → Rf K (d + 1) mc_59 11 (lk [(4, .int (nI e)), (0, .ref T), (3, .ref out)]) [] (St M I1 J1) post := by
    intro e
    induction e using Nat.strongRecOn with
    | ind e ih =>
      intro he I1 J1 R F hfr hR hF hinv
      have hI1 : TwI I1 T p h D := hI.keep (hfr _ (by omega) (by omega)) (hfr _ (by omega) (by omega))
      refine Rf.go 100 [11, 24] ?_
      refine And.intro (fun hb => ?_) (fun hb => ?_)
      · have h0 := (le0N he).mp hb
        subst h0
        have hinv : R = @pw (TR p D h) (TI p D h) X n := ((TI p D h).mul_one R).symm.trans hinv
        rw [← hpost]
        exact ⟨rfl, rfl, I1, J1, rfl, by rw [← hinv]; exact hR, hfr⟩
      · have h0 : e ≠ 0 := fun q => hb ((le0N he).mpr q)
        -- from place 24 on
        have tail : ∀ (I2 : Nat → Nat → Int32) (J2 : Nat → Nat → Int64) (R2 : TR p D h), (∀ a, a ≠ out → a ≠ T + 10 → I2 a = I a) → Re I2 p D h out R2 → Re I2 p D h (T + 10) F → (TI p D h).mul R2 (@pw (TR p D h) (TI p D h) F (2 * (e / 2))) = @pw (TR p D h) (TI p D h) X n → Rf K (d + 1) mc_59 24 (lk [(4, .int (nI e)), (0, .ref T), (3, .ref out)]) [] (St M I2 J2) post := by
          intro I2 J2 R2 hfr2 hR2 hF2 hinv2
          have hI2 : TwI I2 T p h D := hI.keep (hfr2 _ (by omega) (by omega)) (hfr2 _ (by omega) (by omega))
          refine Rf.go 100 [11] ?_
          refine And.intro (fun hb => ?_) (fun hb => ?_)
          · have hb : nI e ≤ Int32.ofInt 1 := of_decide_eq_true hb
            have h1 : e ≤ 1 := (nI_leI (b := 1) (by omega) (by decide)).mp hb
            refine Rf.weak [(4, .int (nI (e / 2))), (0, .ref T), (3, .ref out)] ⟨congrArg (fun z => some (Value.int z)) (shr1 he), rfl, rfl, trivial⟩ (ih (e / 2) (by omega) (by omega) I2 J2 R2 F hfr2 hR2 hF2 ?_)
            rw [show e / 2 = 0 by omega] at hinv2 ⊢
            exact hinv2
          · refine And.intro hTc ⟨T + 10, hR8, ?_⟩
            refine And.intro hTc ⟨T + 10, hR8, ?_⟩
            refine And.intro hTc ⟨T + 10, hR8, ?_⟩
            refine Wr.go (e_mul (d := d) hK hT hI2 r10 r10 r10 hF2 hF2) (Nat.le_refl _) (fun J3 => ?_)
            refine Rf.weak [(4, .int (nI (e / 2))), (0, .ref T), (3, .ref out)] ⟨congrArg (fun z => some (Value.int z)) (shr1 he), rfl, rfl, trivial⟩ (ih (e / 2) (by omega) (by omega) _ J3 R2 _ (fun a h1 h2 => by rw [rwE_ne h2, hfr2 a h1 h2]) (hR2.keep (rwE_ne (by omega))) Re_rwE ?_)
            rw [@pw_mul (TR p D h) (TI p D h), @pw_2 (TR p D h) (TI p D h)] at hinv2
            exact hinv2
        refine And.intro (fun hc => ?_) (fun hc => ?_)
        · have hc : ¬ nI e &&& Int32.ofInt 1 = Int32.ofInt 1 := of_decide_eq_true hc
          rw [and1 he] at hc
          have hev : e % 2 = 0 := by
            rcases Nat.mod_two_eq_zero_or_one e with q | q
            · exact q
            · exact absurd (by rw [q]; rfl) hc
          refine Rf.weak [(4, .int (nI e)), (0, .ref T), (3, .ref out)] ⟨rfl, rfl, rfl, trivial⟩ (tail I1 J1 R hfr hR hF ?_)
          rw [show 2 * (e / 2) = e by omega]
          exact hinv
        · have hc : nI e &&& Int32.ofInt 1 = Int32.ofInt 1 := Classical.not_not.mp (fun q => hc (decide_eq_true q))
          rw [and1 he] at hc
          have hod : e % 2 = 1 := (nI_eq (a := e % 2) (b := 1) (by omega) (by omega)).mp hc
          refine And.intro hTc ⟨T + 10, hR8, ?_⟩
          refine Wr.go (e_mul (d := d) hK hT hI1 ho r10 ho hR hF) (Nat.le_refl _) (fun J2 => ?_)
          refine Rf.weak [(4, .int (nI e)), (0, .ref T), (3, .ref out)] ⟨rfl, rfl, rfl, trivial⟩ (tail _ J2 _ (fun a h1 h2 => by rw [rwE_ne h1, hfr a h1 h2]) Re_rwE (hF.keep (rwE_ne (by omega))) ?_)
          have e9 : @pw (TR p D h) (TI p D h) F e = (TI p D h).mul (@pw (TR p D h) (TI p D h) F (2 * (e / 2))) F := by
            rw [show e = 2 * (e / 2) + 1 by omega, show (2 * (e / 2) + 1) / 2 = e / 2 by omega]
            rfl
          rw [e9] at hinv
          rw [← hinv]
          letI I9 := TI p D h
          show R * F * pw F (2 * (e / 2)) = R * (pw F (2 * (e / 2)) * F)
          grind
  refine Rf.go 100 [11] ?_
  refine And.intro hTc ⟨T + 10, hR8, ?_⟩
  refine Wr.go (e_copy (d := d) (X := X) hT hx r10 hX) (Nat.le_refl _) (fun J2 => ?_)
  refine Wr.go (e_one (d := d) (k := h) hT (hI.keep (rwE_ne (by omega)) (rwE_ne (by omega))) hh3 ho) (Nat.le_refl _) (fun J3 => ?_)
  refine Rf.weak [(4, .int (nI n)), (0, .ref T), (3, .ref out)] ⟨rfl, rfl, rfl, trivial⟩ (key n hn _ J3 _ X (fun a h1 h2 => by rw [rwE_ne h1, rwE_ne h2]) Re_rwE (Re_rwE.keep (rwE_ne (by omega))) ?_)
  letI I9 := TI p D h
  show (1 : TR p D h) * pw X n = pw X n
  grind
theorem t_isResidue [NeZero p] {X : TR p D h} (hT : isC M T 3 = true) (hp2 : 2 ≤ p) (hh : h ≤ 3) (hp : p ≤ 32749) (hx : rc M x) (hX : Re I p D h x X) : Ok K (d + 3) 50 [.ref T, .ref x, .int (Int32.ofInt 1)] (St M I J) (fun r M1 => M1 = St M I J ∧ ∃ b, r = some (.int (bI b)) ∧ (b = true ↔ X = ((TI p D h).ofNat 1).ofNat)) := by
  have hw := w8 hh
  have h8 : I x 0 = nI (tV p D h X 0) := hX 0 (by decide)
  have hl := tV_lt (p := p) (D := D) (x := X) (j := 0)
  refine Ok.go (e := me_50) rfl rfl (Nat.le_of_ble_eq_true rfl) hT ?_
  refine Rf.go 100 [] ?_
  refine Or.inr (And.intro ⟨hx.1, rc_in hx (i := 0) (by decide)⟩ ?_)
  refine And.intro (fun hb => ?_) (fun hb => ?_)
  · have hb : ¬ I x 0 = Int32.ofInt 1 := of_decide_eq_true hb
    refine ⟨rfl, rfl, false, rfl, iff_of_false (by decide) (fun q => hb ?_)⟩
    rw [h8, q, tV_one hp2, if_pos rfl]
    rfl
  · have hb : I x 0 = Int32.ofInt 1 := Classical.not_not.mp (fun q => hb (decide_eq_true q))
    rw [h8] at hb
    have hb : tV p D h X 0 = 1 := (nI_eq (b := 1) (by omega) (by omega)).mp hb
    refine (t_levelOf (d := d) hT hx).up (by omega) ?_
    rintro r M1 ⟨rfl, rfl⟩
    obtain ⟨hL, hL2⟩ := lvU_Lev hh hp hX
    refine And.intro (fun hc => ?_) (fun hc => ?_)
    · have hc : ¬ nI (lvU (I x) 8) = 0 := of_decide_eq_true hc
      refine ⟨rfl, rfl, false, rfl, iff_of_false (by decide) (fun q => hc ?_)⟩
      have h0 : Lev p D h X 0 := ⟨fun j hj => by rw [q, tV_one hp2, if_neg (by omega)], fun k hk => absurd hk (by omega)⟩
      rw [hL.uniq h0]
      rfl
    · have hc : nI (lvU (I x) 8) = 0 := Classical.not_not.mp (fun q => hc (decide_eq_true q))
      have hc : lvU (I x) 8 = 0 := (nI_eq (b := 0) (by omega) (by omega)).mp hc
      rw [hc] at hL
      refine ⟨rfl, rfl, true, rfl, iff_of_true rfl (tV_inj (fun j hj => ?_))⟩
      rw [tV_one hp2]
      by_cases e : j = 0
      · rw [if_pos e, e, hb]
      · rw [if_neg e, hL.1 j (by omega)]
end Rs
