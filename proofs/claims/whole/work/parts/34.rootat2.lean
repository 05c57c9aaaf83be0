/-! Tower.rootAt -/
theorem t_isZeroE {K : Ka} {d T x p k : Nat} {M : Me} {I : Nat → Nat → Int32} {J : Nat → Nat → Int64} {D : Nat → Nat → Nat} [NeZero p] {X : TR p D k} (hT : isC M T 3 = true) (hx : rc M x) (hk : k ≤ 3) (hp : p ≤ 32749) (hX : Re I p D k x X) : Ok K (d + 1) 49 [.ref T, .ref x] (St M I J) (fun r M1 => M1 = St M I J ∧ ((X = ((TI p D k).ofNat 0).ofNat ∧ r = some (.int (Int32.ofInt 1))) ∨ (¬ X = ((TI p D k).ofNat 0).ofNat ∧ r = some (.int (Int32.ofInt 0))))) := by
  refine (t_isZero hT hx).up (Nat.le_refl _) ?_
  rintro r M1 ⟨rfl, rfl⟩
  refine ⟨rfl, ?_⟩
  have hz := z8_el hk hp hX
  cases hb : z8 (I x) with
  | true => exact Or.inl ⟨hz.mp hb, rfl⟩
  | false => exact Or.inr ⟨fun q => (by rw [hz.mpr q] at hb; cases hb), rfl⟩
theorem ne0b (h : cmpI .ne (Int32.ofInt 0) 0 = true) : False := by revert h; decide
theorem ne1b (h : ¬ cmpI .ne (Int32.ofInt 1) 0 = true) : False := h (by decide)
theorem eq0b (h : ¬ cmpI .eq (Int32.ofInt 0) 0 = true) : False := h (by decide)
theorem eq1b (h : cmpI .eq (Int32.ofInt 1) 0 = true) : False := by revert h; decide
theorem le_3 {n : Nat} (h3 : n ≤ 3) : cmpI .le (nI n) (Int32.ofInt 3) = true := decide_eq_true (nI_le (b := 3) h3 (by decide))
section RB2
variable {K : Ka} {T p h : Nat} {M : Me} {D : Nat → Nat → Nat}
def RtS (K : Ka) (T p h : Nat) [NeZero p] (M : Me) (D : Nat → Nat → Nat) (k : Nat) : Prop := ∀ (d : Nat) (I : Nat → Nat → Int32) (J : Nat → Nat → Int64) (x out : Nat) (X : TR p D k), TwA I T p h D → rc M x → rc M out → Re I p D k x X → @Sq (TR p D k) (TI p D k) X → (x < T ∨ T + 15 + 3 * k ≤ x) → (out < T ∨ T + 15 + 3 * k ≤ out) → Ok K (d + 3 + k) 68 [.ref T, .ref x, .int (nI k), .ref out] (St M I J) (fun r M1 => r = none ∧ ∃ I1 J1 Y, M1 = St M I1 J1 ∧ Re I1 p D k out Y ∧ (TI p D k).mul Y Y = X ∧ ∀ a, a ≠ out → (a < T + 7 ∨ T + 10 ≤ a) → (a < T + 15 ∨ T + 15 + 3 * k ≤ a) → I1 a = I a)
theorem rootAt0 [NeZero p] (hT : TwM M T) : RtS K T p h M D 0 := by
  intro d I J x out X hA hx ho hX hs fx fo
  obtain ⟨hI, hF, hB, hD, hp, hodd⟩ := hA
  have hpb := hI.2.2.2.1
  have hTc := hT.1
  have hX0 : I x 0 = nI (Fin.val X) := hX 0 (by decide)
  refine Ok.go (e := me_68) rfl rfl (Nat.le_of_ble_eq_true rfl) hTc ?_
  refine Rf.go 100 [] ?_
  refine And.intro (fun _ => ?_) (fun hb => absurd ((le0N (by omega)).mpr rfl) hb)
  refine Or.inr (And.intro ⟨hx.1, rc_in hx (i := 0) (by decide)⟩ ?_)
  have hs2 := (nc_sq (p := p) (D := D) hp hodd 0 (fun i hi => absurd hi (by omega)) X).mp hs
  have hr := t_resRoot (K := K) (d := d) (M := M) (I := I) (J := J) (T := T) (p := p) (a := X) hp hTc hI.1 hpb.1 hpb.2 hF hs2
  rw [← hX0] at hr
  refine hr.up (Nat.le_refl _) ?_
  rintro r M1 ⟨rfl, y, rfl, hy⟩
  refine Wr.go (e_setRes (d := d) (k := 0) (z := nI y.val) hT hI (by omega) ho) (Nat.le_refl _) (fun J1 => ?_)
  refine ⟨rfl, rfl, _, J1, y, rfl, ?_, hy, fun a h1 _ _ => rwE_ne h1⟩
  intro j hj
  refine (Re_rwE j hj).trans ?_
  congr 1
  rw [rs_nI y.isLt (by omega), tV_nm, tV_one (by omega)]
  show _ = if j = 0 then y.val else 0
  by_cases e : j = 0
  · rw [if_pos e, if_pos e, Nat.mul_one, Nat.mod_eq_of_lt y.isLt]
  · rw [if_neg e, if_neg e, Nat.mul_zero, Nat.zero_mod]
set_option maxHeartbeats 8000000 in
theorem rootAtS [NeZero p] {k : Nat} (hK : Ksp K) (hT : TwM M T) (hk : k + 1 ≤ h) (ih : RtS K T p h M D k) : RtS K T p h M D (k + 1) := by
  intro d I J x out X hA hx ho hX hs fx fo
  have hTc := hT.1
  obtain ⟨hRb, hBc, hBl, hBr⟩ := hT.2.1
  obtain ⟨hRr, hrc, hrl, hrr⟩ := hT.2.2.2.2.2.1
  have hrow := hT.2.2.2.2.2.2
  have hI := hA.1
  have hD := hA.2.2.2.1
  have hp := hA.2.2.2.2.1
  have hodd := hA.2.2.2.2.2
  have hpb := hI.2.2.2.1
  have hh3 := hI.2.2.1
  have hF := tw_Fl hp hodd k (hD.le (by omega))
  have hDk : ¬ @Sq (TR p D k) (TI p D k) (oV p D k (D k)) := hD k (by omega)
  have rL : rc M (T + 15 + 3 * k) := hrow _ (Or.inr (Or.inr ⟨by omega, by omega⟩))
  have rH : rc M (T + 16 + 3 * k) := hrow _ (Or.inr (Or.inr ⟨by omega, by omega⟩))
  have rR : rc M (T + 17 + 3 * k) := hrow _ (Or.inr (Or.inr ⟨by omega, by omega⟩))
  have gL : Int32.ofInt 3 * nI (k + 1) = nI (3 * (k + 1)) := pk_mul 3 (k + 1)
  have gH : Int32.ofInt 3 * nI (k + 1) + Int32.ofInt 1 = nI (3 * (k + 1) + 1) := by rw [gL]; exact nI_add _ 1
  have gR : Int32.ofInt 3 * nI (k + 1) + Int32.ofInt 2 = nI (3 * (k + 1) + 2) := by rw [gL]; exact nI_add _ 2
  have inB : ∀ (z : Int32) (i : Nat), z = nI i → i < 12 → inb z (mH M (T + 11)).2 = true := fun z i e hi => by rw [e, hrl]; exact inb_n hi (by omega)
  have atB : ∀ (z : Int32) (i : Nat), z = nI i → i < 12 → mR M (T + 11) z.toNatClampNeg = some (T + 12 + i) := fun z i e hi => by rw [e, nI_clamp (by omega)]; exact hrr i hi
  have ek : nI (k + 1) - Int32.ofInt 1 = nI k := nI_pred k
  show Ok K ((d + 3 + k) + 1) 68 _ _ _
  refine Ok.go (e := me_68) rfl rfl (Nat.le_of_ble_eq_true rfl) hTc ?_
  generalize hpost : (fun (r : Option Value) (M1 : Me) => rok me_68.2.2.2.1 r = true ∧ r = none ∧ ∃ I1 J1 Y, M1 = St M I1 J1 ∧ Re I1 p D (k + 1) out Y ∧ (TI p D (k + 1)).mul Y Y = X ∧ ∀ a, a ≠ out → (a < T + 7 ∨ T + 10 ≤ a) → (a < T + 15 ∨ T + 15 + 3 * (k + 1) ≤ a) → I1 a = I a) = post
  refine Rf.go 200 [93] ?_
  refine And.intro (fun hb => absurd ((le0N (by omega)).mp hb) (by omega)) (fun _ => ?_)
  refine And.intro (fun _ => ?_) (fun hb => absurd (le_3 (by omega)) hb)
  refine And.intro hTc ⟨T + 11, hRr, ?_⟩
  refine And.intro ⟨hrc, inB _ _ gL (by omega)⟩ ⟨T + 15 + 3 * k, (atB _ _ gL (by omega)).trans (congrArg some (by omega)), ?_⟩
  refine And.intro hTc ⟨T + 11, hRr, ?_⟩
  refine And.intro ⟨hrc, inB _ _ gH (by omega)⟩ ⟨T + 16 + 3 * k, (atB _ _ gH (by omega)).trans (congrArg some (by omega)), ?_⟩
  refine And.intro hTc ⟨T + 11, hRr, ?_⟩
  refine And.intro ⟨hrc, inB _ _ gR (by omega)⟩ ⟨T + 17 + 3 * k, (atB _ _ gR (by omega)).trans (congrArg some (by omega)), ?_⟩
  refine Wr.go (e_split (d := d) (X := X) hT (by omega) hx rL rH hX (by omega) (by omega) (by omega)) (by omega) (fun J1 => ?_)
  generalize hI1 : rwE (rwE I p D k (T + 15 + 3 * k) X.1) p D k (T + 16 + 3 * k) X.2 = I1
  have f1 : ∀ a, a ≠ T + 15 + 3 * k → a ≠ T + 16 + 3 * k → I1 a = I a := fun a h1 h2 => by rw [← hI1, rwE_ne h2, rwE_ne h1]
  have hL1 : Re I1 p D k (T + 15 + 3 * k) X.1 := by rw [← hI1]; exact Re_rwE.keep (rwE_ne (by omega))
  have hH1 : Re I1 p D k (T + 16 + 3 * k) X.2 := by rw [← hI1]; exact Re_rwE
  have hA1 : TwA I1 T p h D := hA.keep (fun a h1 h2 => f1 a (by omega) (by omega))
  have hX1 : Re I1 p D (k + 1) x X := hX.keep (f1 x (by omega) (by omega))
  refine (t_isZeroE (d := d) (J := J1) hTc rH (by omega) hpb.2 hH1).up (by omega) ?_
  have hsn := (@Sq_nrm (TR p D k) (TI p D k) p (2 ^ k) hF (oV p D k (D k)) hDk X).mp hs
  rintro r M1 ⟨rfl, ⟨hz, rfl⟩ | ⟨hz, rfl⟩⟩
  · -- the second half is 0
    have hXe : X = (X.1, ((TI p D k).ofNat 0).ofNat) := Prod.ext rfl hz
    refine And.intro (fun _ => ?_) (fun hb => (ne1b hb).elim)
    have q1 := e_isSq (k := k) (K := K) (d := d) (J := J1) (X := X.1) hp hodd hK hT hA1.1 (hD.le (by omega)) (by omega) rL hL1
    rw [← ek] at q1
    refine q1.up (by omega) ?_
    rintro r M1 ⟨I2, J2, b, rfl, rfl, hb, f2⟩
    have hA2 : TwA I2 T p h D := hA1.keep (fun a h1 h2 => f2 a (by omega) (by omega))
    have hL2 := hL1.keep (f2 _ (by omega) (by omega))
    have hH2 := hH1.keep (f2 _ (by omega) (by omega))
    cases b with
    | true =>
      refine And.intro (fun hc => (eq1b hc).elim) (fun _ => ?_)
      have q2 := ih d I2 J2 (T + 15 + 3 * k) out X.1 hA2 rL ho hL2 (hb.mp rfl) (Or.inr (by omega)) (by omega)
      rw [← ek] at q2
      refine q2.up (by omega) ?_
      rintro r M1 ⟨rfl, I3, J3, Y, rfl, hY, hYY, f3⟩
      rw [← hpost]
      refine ⟨rfl, rfl, I3, J3, ((Y, ((TI p D k).ofNat 0).ofNat) : TR p D k × TR p D k), rfl, fun j hj => (hY j hj).trans (congrArg nI (tV_fst Y j).symm), ?_, fun a h1 h2 h3 => ?_⟩
      · refine (@qx_aa (TR p D k) (TI p D k) (oV p D k (D k)) Y Y).trans ?_
        rw [hXe]
        exact Prod.ext hYY rfl
      · rw [f3 a h1 h2 (by omega), f2 a (by omega) (by omega), f1 a (by omega) (by omega)]
    | false =>
      have hns : ¬ @Sq (TR p D k) (TI p D k) X.1 := fun q => by cases hb.mpr q
      refine And.intro (fun _ => ?_) (fun hc => (eq0b hc).elim)
      refine And.intro hTc ⟨T + 1, hRb, ?_⟩
      refine And.intro ⟨hBc, by show inb (nI (k + 1) - Int32.ofInt 1) (mH M (T + 1)).2 = true; rw [ek, hBl]; exact inb_n (by omega) (by omega)⟩ ⟨T + 2 + k, by show mR M (T + 1) (nI (k + 1) - Int32.ofInt 1).toNatClampNeg = _; rw [ek, nI_clamp (by omega)]; exact hBr k (by omega), ?_⟩
      refine (e_invertk (d := d) (k := k) (J := J2) hp hodd hK hT hA2.1 hD (by omega) (hrow _ (Or.inl ⟨by omega, by omega⟩)) rR (hA2.2.2.1 k (by omega))).up (by omega) ?_
      rintro r M1 ⟨rfl, I3, J3, Z, rfl, hZ, hinv, f3⟩
      obtain ⟨hsq, hmul⟩ := @root_lo (TR p D k) (TI p D k) p (2 ^ k) hF _ _ _ hDk hns hinv
      have hA3 : TwA I3 T p h D := hA2.keep (fun a h1 h2 => f3 a (by omega) (by omega) (by omega) (by omega))
      have hL3 := hL2.keep (f3 _ (by omega) (by omega) (by omega) (by omega))
      have hH3 := hH2.keep (f3 _ (by omega) (by omega) (by omega) (by omega))
      refine Wr.go (e_mulk (d := d) (k := k) hK hT hA3.1 (by omega) rL rR rR hL3 hZ) (by omega) (fun J4 => ?_)
      generalize hI4 : rwE I3 p D k (T + 17 + 3 * k) ((TI p D k).mul X.1 Z) = I4
      have f4 : ∀ a, a ≠ T + 17 + 3 * k → I4 a = I3 a := fun a h1 => by rw [← hI4, rwE_ne h1]
      have hA4 : TwA I4 T p h D := hA3.keep (fun a h1 h2 => f4 a (by omega))
      have q2 := ih d I4 J4 (T + 17 + 3 * k) (T + 17 + 3 * k) ((TI p D k).mul X.1 Z) hA4 rR rR (by rw [← hI4]; exact Re_rwE) hsq (Or.inr (by omega)) (Or.inr (by omega))
      rw [← ek] at q2
      refine q2.up (by omega) ?_
      rintro r M1 ⟨rfl, I5, J5, Y, rfl, hY, hYY, f5⟩
      have hH5 : Re I5 p D k (T + 16 + 3 * k) X.2 := (hH3.keep (f4 _ (by omega))).keep (f5 _ (by omega) (by omega) (by omega))
      refine Wr.go (e_join (d := d) hT (by omega) rH rR ho hH5 hY (by omega)) (by omega) (fun J6 => ?_)
      rw [← hpost]
      refine ⟨rfl, rfl, _, J6, ((X.2, Y) : TR p D k × TR p D k), rfl, Re_rwE, ?_, fun a h1 h2 h3 => ?_⟩
      · rw [hz]
        refine (@qx_bb (TR p D k) (TI p D k) (oV p D k (D k)) Y Y).trans ?_
        rw [hXe]
        exact Prod.ext ((congrArg (fun w => (TI p D k).mul w (oV p D k (D k))) hYY).trans hmul) rfl
      · refine (rwE_ne h1).trans ?_
        rw [f5 a (by omega) h2 (by omega), f4 a (by omega), f3 a (by omega) (by omega) (by omega) (by omega), f2 a (by omega) (by omega), f1 a (by omega) (by omega)]
  · refine And.intro (fun hb => (ne0b hb).elim) (fun _ => ?_)
    refine Wr.go (e_mirror (d := d) (X := X) hT hA1.1 (by omega) hx rR hX1) (by omega) (fun J2 => ?_)
    generalize hI2 : rwE I1 p D (k + 1) (T + 17 + 3 * k) ((X.1, (TI p D k).neg X.2) : TR p D k × TR p D k) = I2
    have f2 : ∀ a, a ≠ T + 17 + 3 * k → I2 a = I1 a := fun a h1 => by rw [← hI2]; exact rwE_ne h1
    have hM2 : Re I2 p D (k + 1) (T + 17 + 3 * k) ((X.1, (TI p D k).neg X.2) : TR p D k × TR p D k) := by rw [← hI2]; exact Re_rwE
    have hA2 : TwA I2 T p h D := hA1.keep (fun a h1 h2 => f2 a (by omega))
    refine Wr.go (e_mulk (d := d) hK hT hA2.1 hk hx rR rR (hX1.keep (f2 _ (by omega))) hM2) (by omega) (fun J3 => ?_)
    have en : (TI p D (k + 1)).mul X ((X.1, (TI p D k).neg X.2) : TR p D k × TR p D k) = (@nrm (TR p D k) (TI p D k) (oV p D k (D k)) X, ((TI p D k).ofNat 0).ofNat) := @conj_nrm (TR p D k) (TI p D k) (oV p D k (D k)) X
    rw [en]
    generalize hI3 : rwE I2 p D (k + 1) (T + 17 + 3 * k) (@nrm (TR p D k) (TI p D k) (oV p D k (D k)) X, ((TI p D k).ofNat 0).ofNat) = I3
    have f3 : ∀ a, a ≠ T + 17 + 3 * k → I3 a = I2 a := fun a h1 => by rw [← hI3]; exact rwE_ne h1
    have hA3 : TwA I3 T p h D := hA2.keep (fun a h1 h2 => f3 a (by omega))
    have hN3 : Re I3 p D k (T + 17 + 3 * k) (@nrm (TR p D k) (TI p D k) (oV p D k (D k)) X) := by
      rw [← hI3]
      intro j hj
      refine (Re_rwE (I := I2) (p := p) (D := D) (h := k + 1) (a := T + 17 + 3 * k) j hj).trans ?_
      exact congrArg nI (tV_fst (h := k) _ j)
    have q2 := ih d I3 J3 (T + 17 + 3 * k) (T + 17 + 3 * k) _ hA3 rR rR hN3 hsn (Or.inr (by omega)) (Or.inr (by omega))
    rw [← ek] at q2
    refine q2.up (by omega) ?_
    rintro r M1 ⟨rfl, I4, J4, Y, rfl, hY, hYY, f4⟩
    have hA4 : TwA I4 T p h D := hA3.keep (fun a h1 h2 => f4 a (by omega) (by omega) (by omega))
    have g4 : ∀ a, a ≠ T + 17 + 3 * k → (a < T + 7 ∨ T + 10 ≤ a) → (a < T + 15 ∨ T + 15 + 3 * k ≤ a) → I4 a = I1 a := fun a h1 h2 h3 => by rw [f4 a h1 h2 h3, f3 a h1, f2 a h1]
    have hL4 := hL1.keep (g4 _ (by omega) (by omega) (by omega))
    have hH4 := hH1.keep (g4 _ (by omega) (by omega) (by omega))
    refine Wr.go (e_addk (d := d) hT hA4.1 rL rR rR hL4 hY) (by omega) (fun J5 => ?_)
    generalize hI5 : rwE I4 p D k (T + 17 + 3 * k) ((TI p D k).add X.1 Y) = I5
    have f5 : ∀ a, a ≠ T + 17 + 3 * k → I5 a = I4 a := fun a h1 => by rw [← hI5]; exact rwE_ne h1
    have hR5 : Re I5 p D k (T + 17 + 3 * k) ((TI p D k).add X.1 Y) := by rw [← hI5]; exact Re_rwE
    have hA5 : TwA I5 T p h D := hA4.keep (fun a h1 h2 => f5 a (by omega))
    have e2 : (I5 T 0 + Int32.ofInt 1) / Int32.ofInt 2 = nI ((p + 1) / 2) := by
      rw [hA5.1.1, show Int32.ofInt 1 = nI 1 from rfl, nI_add]
      exact pk_div (d := 2) (by omega) (by decide) (by decide)
    refine And.intro hTc ?_
    refine And.intro (by decide) ?_
    have q3 := e_scale (k := k) (K := K) (d := d) (J := J5) (c := (p + 1) / 2) hT hA5.1 rR rR hR5 (by omega)
    rw [← e2] at q3
    refine Wr.go q3 (by omega) (fun J6 => ?_)
    generalize hS : @nm (TR p D k) (TI p D k) ((p + 1) / 2) ((TI p D k).add X.1 Y) = S
    have hSS : (TI p D k).add S S = (TI p D k).add X.1 Y := by rw [← hS]; exact @nm_half (TR p D k) (TI p D k) p (@Fl.ch (TR p D k) (TI p D k) p (2 ^ k) hF) hodd _
    obtain ⟨hS0, hT0, hor, he4⟩ := @root_hi1 (TR p D k) (TI p D k) p (2 ^ k) hF (oV p D k (D k)) X.1 X.2 Y S hDk hz hYY hSS
    generalize hI6 : rwE I5 p D k (T + 17 + 3 * k) S = I6
    have f6 : ∀ a, a ≠ T + 17 + 3 * k → I6 a = I5 a := fun a h1 => by rw [← hI6]; exact rwE_ne h1
    have hR6 : Re I6 p D k (T + 17 + 3 * k) S := by rw [← hI6]; exact Re_rwE
    have hA6 : TwA I6 T p h D := hA5.keep (fun a h1 h2 => f6 a (by omega))
    have q4 := e_isSq (k := k) (K := K) (d := d) (J := J6) (X := S) hp hodd hK hT hA6.1 (hD.le (by omega)) (by omega) rR hR6
    rw [← ek] at q4
    refine q4.up (by omega) ?_
    rintro r M1 ⟨I7, J7, b, rfl, rfl, hb, f7⟩
    have hA7 : TwA I7 T p h D := hA6.keep (fun a h1 h2 => f7 a (by omega) (by omega))
    have hR7 := hR6.keep (f7 _ (by omega) (by omega))
    have g7 : ∀ a, a ≠ T + 17 + 3 * k → (a < T + 7 ∨ T + 10 ≤ a) → (a < T + 15 ∨ T + 15 + 3 * k ≤ a) → I7 a = I1 a := fun a h1 h2 h3 => by rw [f7 a (by omega) (by omega), f6 a h1, f5 a h1, g4 a h1 h2 h3]
    have hL7 := hL1.keep (g7 _ (by omega) (by omega) (by omega))
    have hH7 := hH1.keep (g7 _ (by omega) (by omega) (by omega))
    -- the rest, from place 93 on
    have fin : ∀ (I8 : Nat → Nat → Int32) (J8 : Nat → Nat → Int64) (s : TR p D k), TwA I8 T p h D → Re I8 p D k (T + 17 + 3 * k) s → Re I8 p D k (T + 16 + 3 * k) X.2 → (∀ a, a ≠ T + 17 + 3 * k → (a < T + 7 ∨ T + 10 ≤ a) → (a < T + 15 ∨ T + 15 + 3 * k ≤ a) → I8 a = I1 a) → @Sq (TR p D k) (TI p D k) s → ¬ s = ((TI p D k).ofNat 0).ofNat → (TI p D k).mul ((TI p D k).mul ((TI p D k).add ((TI p D k).ofNat 1).ofNat ((TI p D k).ofNat 1).ofNat) ((TI p D k).add ((TI p D k).ofNat 1).ofNat ((TI p D k).ofNat 1).ofNat)) ((TI p D k).mul s ((TI p D k).sub X.1 s)) = (TI p D k).mul ((TI p D k).mul X.2 X.2) (oV p D k (D k)) → Rf K (d + 3 + k) mc_68 93 (lk [(4, .ref (T + 15 + 3 * k)), (5, .ref (T + 16 + 3 * k)), (6, .ref (T + 17 + 3 * k)), (0, .ref T), (2, .int (nI (k + 1))), (3, .ref out)]) [] (St M I8 J8) post := by
      intro I8 J8 s hA8 hR8 hH8 g8 hsq hs0 he
      refine Rf.go 100 [] ?_
      have q5 := ih d I8 J8 (T + 17 + 3 * k) (T + 17 + 3 * k) s hA8 rR rR hR8 hsq (Or.inr (by omega)) (Or.inr (by omega))
      rw [← ek] at q5
      refine q5.up (by omega) ?_
      rintro r M1 ⟨rfl, I9, J9, U, rfl, hU, hUU, f9⟩
      have hA9 : TwA I9 T p h D := hA8.keep (fun a h1 h2 => f9 a (by omega) (by omega) (by omega))
      have hH9 := hH8.keep (f9 _ (by omega) (by omega) (by omega))
      refine Wr.go (e_scale (d := d) (c := 2) hT hA9.1 rR rL hU (by omega)) (by omega) (fun Ja => ?_)
      rw [@nm_two (TR p D k) (TI p D k)]
      generalize hIa : rwE I9 p D k (T + 15 + 3 * k) _ = Ia
      have fa : ∀ a, a ≠ T + 15 + 3 * k → Ia a = I9 a := fun a h1 => by rw [← hIa]; exact rwE_ne h1
      have hAa : TwA Ia T p h D := hA9.keep (fun a h1 h2 => fa a (by omega))
      refine (e_invertk (d := d) (J := Ja) (k := k) (X := (TI p D k).add U U) hp hodd hK hT hAa.1 hD (by omega) rL rL (by rw [← hIa]; exact Re_rwE)).up (by omega) ?_
      rintro r M1 ⟨rfl, Ib, Jb, Z, rfl, hZ, hinv, fb⟩
      have hAb : TwA Ib T p h D := hAa.keep (fun a h1 h2 => fb a (by omega) (by omega) (by omega) (by omega))
      have hHb := (hH9.keep (fa _ (by omega))).keep (fb _ (by omega) (by omega) (by omega) (by omega))
      have hUb := (hU.keep (fa _ (by omega))).keep (fb _ (by omega) (by omega) (by omega) (by omega))
      refine Wr.go (e_mulk (d := d) (k := k) hK hT hAb.1 (by omega) rH rL rH hHb hZ) (by omega) (fun Jc => ?_)
      generalize hIc : rwE Ib p D k (T + 16 + 3 * k) _ = Ic
      have fc : ∀ a, a ≠ T + 16 + 3 * k → Ic a = Ib a := fun a h1 => by rw [← hIc]; exact rwE_ne h1
      refine Wr.go (e_join (d := d) (X := U) (Y := (TI p D k).mul X.2 Z) hT (by omega) rR rH ho (hUb.keep (fc _ (by omega))) (by rw [← hIc]; exact Re_rwE) (by omega)) (by omega) (fun Jd => ?_)
      rw [← hpost]
      refine ⟨rfl, rfl, _, Jd, ((U, (TI p D k).mul X.2 Z) : TR p D k × TR p D k), rfl, Re_rwE, ?_, fun a h1 h2 h3 => ?_⟩
      · exact @root_hi2 (TR p D k) (TI p D k) (oV p D k (D k)) X.1 X.2 s U Z hs0 he hUU hinv (fun q => @Fl.dbl (TR p D k) (TI p D k) p (2 ^ k) hF U q)
      · refine (rwE_ne h1).trans ?_
        rw [fc a (by omega), fb a (by omega) (by omega) (by omega) (by omega), fa a (by omega), f9 a (by omega) h2 (by omega), g8 a (by omega) h2 (by omega), f1 a (by omega) (by omega)]
    cases b with
    | true =>
      refine And.intro (fun _ => ?_) (fun hc => (ne1b hc).elim)
      exact Rf.weak [(4, .ref (T + 15 + 3 * k)), (5, .ref (T + 16 + 3 * k)), (6, .ref (T + 17 + 3 * k)), (0, .ref T), (2, .int (nI (k + 1))), (3, .ref out)] ⟨rfl, rfl, rfl, rfl, rfl, rfl, trivial⟩ (fin I7 J7 S hA7 hR7 hH7 g7 (hb.mp rfl) hS0 he4)
    | false =>
      refine And.intro (fun hc => (ne0b hc).elim) (fun _ => ?_)
      refine Wr.go (e_sub (d := d) (k := k) hT hA7.1 rL rR rR hL7 hR7) (by omega) (fun J8 => ?_)
      have hns : ¬ @Sq (TR p D k) (TI p D k) S := fun q => by cases hb.mpr q
      refine Rf.weak [(4, .ref (T + 15 + 3 * k)), (5, .ref (T + 16 + 3 * k)), (6, .ref (T + 17 + 3 * k)), (0, .ref T), (2, .int (nI (k + 1))), (3, .ref out)] ⟨rfl, rfl, rfl, rfl, rfl, rfl, trivial⟩ (fin _ J8 ((TI p D k).sub X.1 S) (hA7.keep (fun a h1 h2 => rwE_ne (by omega))) Re_rwE (hH7.keep (rwE_ne (by omega))) (fun a h1 h2 h3 => (rwE_ne h1).trans (g7 a h1 h2 h3)) (hor.resolve_left hns) hT0 ?_)
      refine Eq.trans ?_ he4
      letI I9 := TI p D k
      show (1 + 1) * (1 + 1) * ((X.1 - S) * (X.1 - (X.1 - S))) = (1 + 1) * (1 + 1) * (S * (X.1 - S))
      grind
/-- the root, at every level up to the height -/
theorem rootAt_ok [NeZero p] (hK : Ksp K) (hT : TwM M T) : ∀ k, k ≤ h → RtS K T p h M D k
  | 0, _ => rootAt0 hT
  | k + 1, hk => rootAtS hK hT hk (rootAt_ok hK hT k (by omega))
end RB2
