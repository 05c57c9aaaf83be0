/-! Tower.invert in elements -/
def Em (p : Nat) [NeZero p] (D : Nat → Nat → Nat) (k h : Nat) (x : TR p D k) : TR p D h := oV p D h (tV p D k x)
theorem Em_tV {p : Nat} [NeZero p] {D : Nat → Nat → Nat} {k h : Nat} (hk : k ≤ h) (x : TR p D k) : tV p D h (Em p D k h x) = tV p D k x := by
  refine tV_eq (fun j => tV_lt) (fun j hj => tV_hi (Nat.le_trans (Nat.pow_le_pow_right (by decide) hk) hj))
theorem Em_mul {p : Nat} [NeZero p] {D : Nat → Nat → Nat} {k h : Nat} (hk : k ≤ h) (x y : TR p D k) : Em p D k h ((TI p D k).mul x y) = (TI p D h).mul (Em p D k h x) (Em p D k h y) := by
  obtain ⟨n, rfl⟩ : ∃ n, h = k + n := ⟨h - k, by omega⟩
  have e : ∀ z : TR p D k, Em p D k (k + n) z = em p D k z n := fun z => tV_inj (fun j _ => by rw [Em_tV hk, em_tV])
  rw [e, e, e, em_mul]
theorem Em_self {p : Nat} [NeZero p] {D : Nat → Nat → Nat} {h : Nat} (x : TR p D h) : Em p D h h x = x := oV_tV h x
theorem Em_fst {p : Nat} [NeZero p] {D : Nat → Nat → Nat} {k h : Nat} (hk : k + 1 ≤ h) (x : TR p D k) : Em p D (k + 1) h (x, ((TI p D k).ofNat 0).ofNat) = Em p D k h x := by
  refine tV_inj (fun j _ => ?_)
  exact (congrFun (Em_tV (k := k + 1) hk ((x, ((TI p D k).ofNat 0).ofNat) : TR p D k × TR p D k)) j).trans ((tV_fst x j).trans (congrFun (Em_tV (by omega) x) j).symm)
theorem tV_one {p : Nat} [NeZero p] {D : Nat → Nat → Nat} (hp : 2 ≤ p) (k j : Nat) : tV p D k ((TI p D k).ofNat 1).ofNat j = if j = 0 then 1 else 0 := by
  rw [← oV_one]
  by_cases hj : j < 2 ^ k
  · rw [tV_oV hj]
    by_cases e : j = 0
    · rw [if_pos e, Nat.mod_eq_of_lt hp]
    · rw [if_neg e, Nat.zero_mod]
  · have h1 : 0 < 2 ^ k := Nat.pow_pos (by decide)
    rw [tV_hi (by omega), if_neg (by omega)]
theorem Em_zero {p : Nat} [NeZero p] {D : Nat → Nat → Nat} (hp : 2 ≤ p) {h : Nat} (x : Fin p) : Em p D 0 h x = @nm (TR p D h) (TI p D h) x.val ((TI p D h).ofNat 1).ofNat := by
  refine tV_inj (fun j _ => ?_)
  refine (congrFun (Em_tV (k := 0) (Nat.zero_le h) x) j).trans ?_
  rw [tV_nm, tV_one hp]
  show (if j = 0 then x.val else 0) = _
  by_cases e : j = 0
  · rw [if_pos e, if_pos e, Nat.mul_one, Nat.mod_eq_of_lt x.isLt]
  · rw [if_neg e, if_neg e, Nat.mul_zero, Nat.zero_mod]
theorem fin_pw {p : Nat} [NeZero p] (hp : 2 ≤ p) (x : Fin p) : ∀ n, (pw x n).val = x.val ^ n % p
  | 0 => by
    show 1 % p = x.val ^ 0 % p
    rw [Nat.pow_zero]
  | n + 1 => by
    show (pw x n * x).val = _
    rw [Fin.val_mul, fin_pw hp x n, Nat.pow_succ, Nat.mod_mul_mod]
theorem nm_modp {R : Type} [I : Lean.Grind.CommRing R] {p : Nat} (hc : ∀ x : R, nm p x = 0) (n : Nat) (x : R) : nm (n % p) x = nm n x := by
  have h := Nat.div_add_mod n p
  have h2 : nm (p * (n / p) + n % p) x = nm n x := by rw [h]
  rw [nm_add, nm_mul, hc, nm_zero] at h2
  rw [← h2]
  grind
/-- Z is the inverse of X (0 of 0) -/
def IsInv {R : Type} [Lean.Grind.CommRing R] (X Z : R) : Prop := (X = 0 → Z = 0) ∧ (¬ X = 0 → X * Z = 1)
theorem dec1 (k : Nat) : some (Value.int (nI (k + 1) + Int32.ofInt (-1))) = some (Value.int (nI k)) := congrArg (fun z => some (Value.int z)) (pk_m1 k)
theorem conj_nrm {R : Type} [I : Lean.Grind.CommRing R] (D : R) (x : R × R) : (qxI D).mul x (x.1, -x.2) = (nrm D x, 0) := Prod.ext (show x.1 * x.1 + x.2 * -x.2 * D = x.1 * x.1 - x.2 * x.2 * D by grind) (show x.1 * -x.2 + x.2 * x.1 = 0 by grind)
section Inv
variable {K : Ka} {d T x y out p h : Nat} {M : Me} {I : Nat → Nat → Int32} {J : Nat → Nat → Int64} {D : Nat → Nat → Nat}
set_option maxHeartbeats 4000000 in
theorem e_invert [NeZero p] {X : TR p D h} (hp : Pr p) (hodd : p % 2 = 1) (hK : Ksp K) (hT : TwM M T) (hI : TwI I T p h D) (hD : tOk p D h) (hx : rc M x) (ho : rc M out) (hX : Re I p D h x X) : Ok K (d + 2) 61 [.ref T, .ref x, .ref out] (St M I J) (fun r M1 => r = none ∧ ∃ I1 J1 Z, M1 = St M I1 J1 ∧ Re I1 p D h out Z ∧ @IsInv (TR p D h) (TI p D h) X Z ∧ ∀ a, a ≠ out → a ≠ T + 7 → a ≠ T + 8 → a ≠ T + 9 → I1 a = I a) := by
  have hTc := hT.1
  obtain ⟨hR5, hR6, hR7, hR8⟩ := hT.2.2.2.2.1
  have hrow := hT.2.2.2.2.2.2
  have r7 : rc M (T + 7) := hrow _ (Or.inr (Or.inl ⟨by omega, by omega⟩))
  have r8 : rc M (T + 8) := hrow _ (Or.inr (Or.inl ⟨by omega, by omega⟩))
  have r9 : rc M (T + 9) := hrow _ (Or.inr (Or.inl ⟨by omega, by omega⟩))
  have hpb := hI.2.2.2.1
  have hh3 := hI.2.2.1
  have hF := tw_Fl hp hodd h hD
  refine Ok.go (e := me_61) rfl rfl (Nat.le_of_ble_eq_true rfl) hTc ?_
  generalize hpost : (fun (r : Option Value) (M1 : Me) => rok me_61.2.2.2.1 r = true ∧ r = none ∧ ∃ I1 J1 Z, M1 = St M I1 J1 ∧ Re I1 p D h out Z ∧ @IsInv (TR p D h) (TI p D h) X Z ∧ ∀ a, a ≠ out → a ≠ T + 7 → a ≠ T + 8 → a ≠ T + 9 → I1 a = I a) = post
  -- the loop
  have key : ∀ k, k ≤ h → ∀ (I1 : Nat → Nat → Int32) (J1 : Nat → Nat → Int64) (N : TR p D k) (V : TR p D h), (∀ a, a ≠ T + 7 → a ≠ T + 8 → a ≠ T + 9 → I1 a = I a) → Re I1 p D k (T + 7) N → Re I1 p D h (T + 9) V → (TI p D h).mul X V = Em p D k h N → nc p D k N = nc p D h X → Rf K (d + 1) mc_61 13 (lk [(3, .int (nI k)), (0, .ref T), (2, .ref out)]) [] (St M I1 J1) post := by
    intro k
    induction k with
    | zero =>
      intro _ I1 J1 N V hfr hN hV hinv hnc
      have hI1 : TwI I1 T p h D := hI.keep (hfr T (by omega) (by omega) (by omega)) (hfr (T + 5) (by omega) (by omega) (by omega))
      have hN0 : I1 (T + 7) 0 = nI (Fin.val N) := hN 0 (by decide)
      have e2 : I1 T 0 - Int32.ofInt 2 = nI (p - 2) := by rw [hI1.1]; exact pk_sub (b := 2) (by omega)
      refine Rf.go 100 [] ?_
      refine And.intro (fun _ => ?_) (fun hb => absurd ((le0N (by omega)).mpr rfl) hb)
      refine And.intro hTc ⟨T + 9, hR7, ?_⟩
      refine And.intro hTc ⟨T + 7, hR5, ?_⟩
      refine Or.inr (And.intro ⟨r7.1, rc_in r7 (i := 0) (by decide)⟩ ?_)
      refine And.intro hTc ?_
      have hpw := t_power (K := K) (d := d) (M := M) (I := I1) (J := J1) (T := T) (p := p) (a := Fin.val N) (n := p - 2) hTc hI1.1 (by omega) hpb.2 (Fin.isLt N) (by omega)
      rw [← hN0, ← e2] at hpw
      refine hpw.up (Nat.le_refl _) ?_
      rintro r M1 ⟨rfl, rfl⟩
      refine Wr.go (e_scale (d := d) (c := Fin.val N ^ (p - 2) % p) (X := V) hT hI1 r9 ho hV (Nat.mod_lt _ (by omega))) (Nat.le_refl _) (fun J2 => ?_)
      rw [← hpost]
      refine ⟨rfl, rfl, _, J2, _, rfl, Re_rwE, ?_, fun a h1 h2 h3 h4 => by rw [rwE_ne h1, hfr a h2 h3 h4]⟩
      have hinv : (TI p D h).mul X V = @nm (TR p D h) (TI p D h) (Fin.val N) ((TI p D h).ofNat 1).ofNat := hinv.trans (Em_zero (D := D) (h := h) (show 2 ≤ p by omega) N)
      constructor
      · intro hX0
        have hz : @nm (TR p D h) (TI p D h) (Fin.val N) ((TI p D h).ofNat 1).ofNat = ((TI p D h).ofNat 0).ofNat := by
          rw [← hinv, hX0]
          exact (TI p D h).zero_mul V
        have h0 := congrArg (fun z => tV p D h z 0) hz
        have h0 : tV p D h (@nm (TR p D h) (TI p D h) (Fin.val N) ((TI p D h).ofNat 1).ofNat) 0 = tV p D h ((TI p D h).ofNat 0).ofNat 0 := h0
        rw [tV_nm, tV_one (by omega), tV_zero, if_pos rfl, Nat.mul_one, Nat.mod_eq_of_lt (Fin.isLt N)] at h0
        rw [h0, Nat.zero_pow (by omega), Nat.zero_mod]
        rfl
      · intro hX0
        have hN0' : ¬ N = (0 : Fin p) := fun q => hX0 (nc_zero hp hodd h hD X (hnc.symm.trans q))
        have h1 : Fin.val N ^ (p - 1) % p = 1 := (fin_pw (p := p) (show 2 ≤ p by omega) N (p - 1)).symm.trans ((congrArg Fin.val (fin_q1 hp hN0')).trans (fin_one hp))
        have hc : Fin.val N * (Fin.val N ^ (p - 2) % p) % p = 1 := by
          rw [Nat.mul_mod_mod, ← Nat.pow_succ', show (p - 2).succ = p - 1 by omega]
          exact h1
        letI I9 := TI p D h
        show X * nm (Fin.val N ^ (p - 2) % p) V = 1
        have e9 : X * nm (Fin.val N ^ (p - 2) % p) V = nm (Fin.val N ^ (p - 2) % p) (X * V) := by
          rw [show X * V = V * X by grind, nm_mulr]
          grind
        rw [e9, show X * V = nm (Fin.val N) 1 from hinv, ← nm_mul, ← nm_modp hF.ch, hc]
        show (0 : TR p D h) + 1 = 1
        grind
    | succ k ih =>
      intro hk I1 J1 N V hfr hN hV hinv hnc
      have hI1 : TwI I1 T p h D := hI.keep (hfr T (by omega) (by omega) (by omega)) (hfr (T + 5) (by omega) (by omega) (by omega))
      refine Rf.go 100 [13] ?_
      refine And.intro (fun hb => absurd ((le0N (by omega)).mp hb) (by omega)) (fun _ => ?_)
      refine And.intro hTc ⟨T + 7, hR5, ?_⟩
      refine And.intro hTc ⟨T + 8, hR6, ?_⟩
      refine Wr.go (e_mirror (d := d) (X := N) hT hI1 (by omega) r7 r8 hN) (Nat.le_refl _) (fun J2 => ?_)
      generalize hI2 : rwE I1 p D (k + 1) (T + 8) ((N.1, (TI p D k).neg N.2) : TR p D k × TR p D k) = I2
      have f2 : ∀ a, a ≠ T + 8 → I2 a = I1 a := fun a ha => by rw [← hI2]; exact rwE_ne ha
      have hM2 : Re I2 p D (k + 1) (T + 8) ((N.1, (TI p D k).neg N.2) : TR p D k × TR p D k) := by rw [← hI2]; exact Re_rwE
      have hTI2 : TwI I2 T p h D := hI1.keep (f2 T (by omega)) (f2 (T + 5) (by omega))
      refine And.intro hTc ⟨T + 7, hR5, ?_⟩
      refine And.intro hTc ⟨T + 8, hR6, ?_⟩
      refine And.intro hTc ⟨T + 7, hR5, ?_⟩
      refine Wr.go (e_mulk (d := d) hK hT hTI2 hk r7 r8 r7 (hN.keep (f2 _ (by omega))) hM2) (Nat.le_refl _) (fun J3 => ?_)
      have en := @conj_nrm (TR p D k) (TI p D k) (oV p D k (D k)) N
      have en : (TI p D (k + 1)).mul N ((N.1, (TI p D k).neg N.2) : TR p D k × TR p D k) = (@nrm (TR p D k) (TI p D k) (oV p D k (D k)) N, ((TI p D k).ofNat 0).ofNat) := en
      rw [en]
      generalize hI3 : rwE I2 p D (k + 1) (T + 7) (@nrm (TR p D k) (TI p D k) (oV p D k (D k)) N, ((TI p D k).ofNat 0).ofNat) = I3
      have f3 : ∀ a, a ≠ T + 7 → I3 a = I2 a := fun a ha => by rw [← hI3]; exact rwE_ne ha
      have hN3 : Re I3 p D k (T + 7) (@nrm (TR p D k) (TI p D k) (oV p D k (D k)) N) := by
        rw [← hI3]
        intro j hj
        refine (Re_rwE (I := I2) (p := p) (D := D) (h := k + 1) (a := T + 7) j hj).trans ?_
        exact congrArg nI (tV_fst (h := k) _ j)
      have hTI3 : TwI I3 T p h D := hTI2.keep (f3 T (by omega)) (f3 (T + 5) (by omega))
      refine And.intro hTc ⟨T + 9, hR7, ?_⟩
      refine And.intro hTc ⟨T + 8, hR6, ?_⟩
      refine And.intro hTc ⟨T + 9, hR7, ?_⟩
      have hV3 : Re I3 p D h (T + 9) V := (hV.keep (f2 _ (by omega))).keep (f3 _ (by omega))
      have hC3 : Re I3 p D h (T + 8) (Em p D (k + 1) h ((N.1, (TI p D k).neg N.2) : TR p D k × TR p D k)) := by
        intro j hj
        exact ((hM2.keep (f3 _ (by omega))) j hj).trans (congrArg nI (congrFun (Em_tV hk _) j).symm)
      refine Wr.go (e_mul (d := d) hK hT hTI3 r9 r8 r9 hV3 hC3) (Nat.le_refl _) (fun J4 => ?_)
      generalize hI4 : rwE I3 p D h (T + 9) ((TI p D h).mul V (Em p D (k + 1) h ((N.1, (TI p D k).neg N.2) : TR p D k × TR p D k))) = I4
      have f4 : ∀ a, a ≠ T + 9 → I4 a = I3 a := fun a ha => by rw [← hI4]; exact rwE_ne ha
      refine Rf.weak [(3, .int (nI k)), (0, .ref T), (2, .ref out)] ⟨dec1 k, rfl, rfl, trivial⟩ ?_
      refine ih (by omega) I4 J4 _ _ (fun a h1 h2 h3 => by rw [f4 a h3, f3 a h1, f2 a h2, hfr a h1 h2 h3]) (hN3.keep (f4 _ (by omega))) (by rw [← hI4]; exact Re_rwE) ?_ hnc
      have e9 : (TI p D h).mul X ((TI p D h).mul V (Em p D (k + 1) h ((N.1, (TI p D k).neg N.2) : TR p D k × TR p D k))) = (TI p D h).mul ((TI p D h).mul X V) (Em p D (k + 1) h ((N.1, (TI p D k).neg N.2) : TR p D k × TR p D k)) := ((TI p D h).mul_assoc X V _).symm
      refine (e9.trans ((congrArg (fun z => (TI p D h).mul z (Em p D (k + 1) h ((N.1, (TI p D k).neg N.2) : TR p D k × TR p D k))) hinv).trans ((Em_mul hk N _).symm.trans ((congrArg (Em p D (k + 1) h) en).trans (Em_fst hk _)))))
  refine Rf.go 100 [13] ?_
  refine And.intro hTc ⟨T + 7, hR5, ?_⟩
  refine Wr.go (e_copy (d := d) (X := X) hT hx r7 hX) (Nat.le_refl _) (fun J2 => ?_)
  refine And.intro hTc ⟨T + 9, hR7, ?_⟩
  refine Wr.go (e_one (d := d) (k := h) hT (hI.keep (rwE_ne (by omega)) (rwE_ne (by omega))) hh3 r9) (Nat.le_refl _) (fun J3 => ?_)
  refine And.intro hTc ?_
  refine Rf.weak [(3, .int (nI h)), (0, .ref T), (2, .ref out)] ⟨?_, rfl, rfl, trivial⟩ ?_
  · show some (Value.int (rwE (rwE I p D h (T + 7) X) p D h (T + 9) ((TI p D h).ofNat 1).ofNat T 1)) = _
    rw [rwE_ne (by omega), rwE_ne (by omega), hI.2.1]
  · refine key h (Nat.le_refl h) _ J3 X ((TI p D h).ofNat 1).ofNat (fun a h1 h2 h3 => by rw [rwE_ne h3, rwE_ne h1]) ((Re_rwE).keep (rwE_ne (by omega))) Re_rwE ?_ rfl
    rw [Em_self]
    exact (TI p D h).mul_one X
end Inv
