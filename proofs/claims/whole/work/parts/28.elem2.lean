/-! more of the tower in elements -/
section Tn
theorem tV_neg {p : Nat} [NeZero p] {D : Nat → Nat → Nat} : ∀ (k : Nat) (x : TR p D k) (j : Nat), tV p D k ((TI p D k).neg x) j = (p - tV p D k x j) % p
  | 0, x, j => by
    show (if j = 0 then Fin.val (@Neg.neg (Fin p) _ x) else 0) = (p - (if j = 0 then Fin.val x else 0)) % p
    by_cases h : j = 0
    · rw [if_pos h, if_pos h]
      exact congrArg Fin.val (Fin.neg_def (n := p) x)
    · rw [if_neg h, if_neg h, Nat.sub_zero, Nat.mod_self]
  | k + 1, x, j => by
    show (if j < 2 ^ k then tV p D k ((TI p D k).neg x.1) j else tV p D k ((TI p D k).neg x.2) (j - 2 ^ k)) = (p - (if j < 2 ^ k then tV p D k x.1 j else tV p D k x.2 (j - 2 ^ k))) % p
    by_cases h : j < 2 ^ k
    · rw [if_pos h, if_pos h, tV_neg k]
    · rw [if_neg h, if_neg h, tV_neg k]
theorem tV_sub {p : Nat} [NeZero p] {D : Nat → Nat → Nat} (k : Nat) (x y : TR p D k) (j : Nat) : tV p D k ((TI p D k).sub x y) j = (tV p D k x j + (p - tV p D k y j)) % p := by
  have e : (TI p D k).sub x y = (TI p D k).add x ((TI p D k).neg y) := (TI p D k).sub_eq_add_neg x y
  rw [e, tV_add, tV_neg, Nat.add_mod_mod]
/-- up the tower -/
def em (p : Nat) [NeZero p] (D : Nat → Nat → Nat) (k : Nat) (x : TR p D k) : (n : Nat) → TR p D (k + n)
  | 0 => x
  | n + 1 => (em p D k x n, ((TI p D (k + n)).ofNat 0).ofNat)
theorem em_tV {p : Nat} [NeZero p] {D : Nat → Nat → Nat} {k : Nat} (x : TR p D k) (j : Nat) : ∀ n, tV p D (k + n) (em p D k x n) j = tV p D k x j
  | 0 => rfl
  | n + 1 => (tV_fst (h := k + n) (em p D k x n) j).trans (em_tV x j n)
theorem em_mul {p : Nat} [NeZero p] {D : Nat → Nat → Nat} {k : Nat} (x y : TR p D k) : ∀ n, em p D k ((TI p D k).mul x y) n = (TI p D (k + n)).mul (em p D k x n) (em p D k y n)
  | 0 => rfl
  | n + 1 => by
    show (em p D k ((TI p D k).mul x y) n, ((TI p D (k + n)).ofNat 0).ofNat) = (TI p D (k + n + 1)).mul (em p D k x n, ((TI p D (k + n)).ofNat 0).ofNat) (em p D k y n, ((TI p D (k + n)).ofNat 0).ofNat)
    rw [em_mul x y n]
    exact (@qx_aa (TR p D (k + n)) (TI p D (k + n)) (oV p D (k + n) (D (k + n))) (em p D k x n) (em p D k y n)).symm
end Tn
section El2
variable {K : Ka} {d T x y out p h : Nat} {M : Me} {I : Nat → Nat → Int32} {J : Nat → Nat → Int64} {D : Nat → Nat → Nat}
/-- the product, at any level up to the height -/
theorem e_mulk {k : Nat} [NeZero p] {X Y : TR p D k} (hK : Ksp K) (hT : TwM M T) (hI : TwI I T p h D) (hk : k ≤ h) (hx : rc M x) (hy : rc M y) (ho : rc M out) (hX : Re I p D k x X) (hY : Re I p D k y Y) : Wr K (d + 1) 58 [.ref T, .ref x, .ref y, .ref out] M I J (rwE I p D k out ((TI p D k).mul X Y)) := by
  obtain ⟨n, rfl⟩ : ∃ n, h = k + n := ⟨h - k, by omega⟩
  have h1 := e_mul (d := d) (J := J) (x := x) (y := y) (out := out) (X := em p D k X n) (Y := em p D k Y n) hK hT hI hx hy ho (fun j hj => by rw [em_tV]; exact hX j hj) (fun j hj => by rw [em_tV]; exact hY j hj)
  rw [← em_mul] at h1
  have e : rwE I p D (k + n) out (em p D k ((TI p D k).mul X Y) n) = rwE I p D k out ((TI p D k).mul X Y) := rw8_congr (fun j hj => by rw [em_tV])
  rw [e] at h1
  exact h1
theorem e_sub {k : Nat} [NeZero p] {X Y : TR p D k} (hT : TwM M T) (hI : TwI I T p h D) (hx : rc M x) (hy : rc M y) (ho : rc M out) (hX : Re I p D k x X) (hY : Re I p D k y Y) : Wr K (d + 1) 55 [.ref T, .ref x, .ref y, .ref out] M I J (rwE I p D k out ((TI p D k).sub X Y)) := by
  refine (t_sub hT.1 hx hy ho).up (Nat.le_refl _) ?_
  rintro r M1 ⟨rfl, rfl⟩
  refine ⟨rfl, J, ?_⟩
  unfold rwE
  rw [rw8_congr (fun j hj => ?_)]
  have h1 := tV_lt (p := p) (D := D) (x := X) (j := j)
  have h2 := tV_lt (p := p) (D := D) (x := Y) (j := j)
  have hpb := hI.2.2.2.1.2
  rw [hX j hj, hY j hj, hI.1, tV_sub]
  by_cases hc : tV p D k Y j ≤ tV p D k X j
  · rw [pk_sub hc, if_pos (show Int32.ofInt 0 ≤ nI (tV p D k X j - tV p D k Y j) from nI_pos' (by omega)), show tV p D k X j + (p - tV p D k Y j) = (tV p D k X j - tV p D k Y j) + p by omega, Nat.add_mod_right, Nat.mod_eq_of_lt (by omega)]
  · have hneg : nI (tV p D k X j) - nI (tV p D k Y j) < 0 := pk_sneg (by omega) (by omega)
    rw [if_neg (show ¬ Int32.ofInt 0 ≤ nI (tV p D k X j) - nI (tV p D k Y j) from fun q => absurd hneg (Int32.not_lt.mpr q)), Nat.mod_eq_of_lt (by omega)]
    have e : nI (tV p D k X j) - nI (tV p D k Y j) + nI p = nI (tV p D k X j) + (nI p - nI (tV p D k Y j)) := by
      rw [Int32.sub_eq_add_neg, Int32.sub_eq_add_neg, Int32.add_assoc, Int32.add_comm (-nI (tV p D k Y j))]
    rw [e, pk_sub (by omega), nI_add]
theorem e_neg {k : Nat} [NeZero p] {X : TR p D k} (hT : TwM M T) (hI : TwI I T p h D) (hx : rc M x) (ho : rc M out) (hX : Re I p D k x X) : Wr K (d + 1) 56 [.ref T, .ref x, .ref out] M I J (rwE I p D k out ((TI p D k).neg X)) := by
  refine (t_neg hT.1 hx ho).up (Nat.le_refl _) ?_
  rintro r M1 ⟨rfl, rfl⟩
  refine ⟨rfl, J, ?_⟩
  unfold rwE
  rw [rw8_congr (fun j hj => ?_)]
  have h1 := tV_lt (p := p) (D := D) (x := X) (j := j)
  have hpb := hI.2.2.2.1.2
  rw [hX j hj, hI.1, tV_neg]
  by_cases hc : tV p D k X j = 0
  · rw [hc, if_pos (show nI 0 = 0 from nI_0), Nat.sub_zero, Nat.mod_self]
    rfl
  · rw [if_neg (nI_ne0 (by omega) (by omega)), pk_sub (by omega), Nat.mod_eq_of_lt (by omega)]
theorem e_scale {k c : Nat} [NeZero p] {X : TR p D k} (hT : TwM M T) (hI : TwI I T p h D) (hx : rc M x) (ho : rc M out) (hX : Re I p D k x X) (hc : c < p) : Wr K (d + 1) 57 [.ref T, .ref x, .int (nI c), .ref out] M I J (rwE I p D k out (@nm (TR p D k) (TI p D k) c X)) := by
  have hpb := hI.2.2.2.1
  refine (t_scale hT.1 hx ho (by rw [hI.1]; exact nI_ne0 (by omega) (by omega))).up (Nat.le_refl _) ?_
  rintro r M1 ⟨rfl, rfl⟩
  refine ⟨rfl, J, ?_⟩
  unfold rwE
  rw [rw8_congr (fun j hj => ?_)]
  have h1 := tV_lt (p := p) (D := D) (x := X) (j := j)
  rw [hX j hj, hI.1, tV_nm, pk_mul, pk_rem (sq_lt h1 hc hpb.2) (by omega) (by omega), Nat.mul_comm]
theorem e_one {k : Nat} [NeZero p] (hT : TwM M T) (hI : TwI I T p h D) (hk : k ≤ 3) (ho : rc M out) : Wr K (d + 1) 47 [.ref T, .int (nI 0), .ref out] M I J (rwE I p D k out ((TI p D k).ofNat 1).ofNat) := by
  have hpb := hI.2.2.2.1
  refine (t_unit hT.1 ho).up (Nat.le_refl _) ?_
  rintro r M1 ⟨rfl, rfl⟩
  refine ⟨rfl, J, ?_⟩
  unfold rwE
  rw [rw8_congr (fun j hj => ?_)]
  rw [← oV_one]
  by_cases hj2 : j < 2 ^ k
  · rw [tV_oV hj2]
    by_cases e : j = 0
    · rw [if_pos (by rw [e]), if_pos e, Nat.mod_eq_of_lt (by omega)]
      rfl
    · rw [if_neg (fun q => e ((nI_eq (by omega) (by omega)).mp q)), if_neg e, Nat.zero_mod]
      rfl
  · rw [tV_hi (by omega), if_neg (fun q => by
      have := (nI_eq (a := j) (b := 0) (by omega) (by omega)).mp q
      have h1 : 0 < 2 ^ k := Nat.pow_pos (by decide)
      omega)]
    rfl
/-- the mirror of a pair -/
theorem e_mirror {k : Nat} [NeZero p] {X : TR p D (k + 1)} (hT : TwM M T) (hI : TwI I T p h D) (hk : k + 1 ≤ 3) (hx : rc M x) (ho : rc M out) (hX : Re I p D (k + 1) x X) : Wr K (d + 1) 60 [.ref T, .ref x, .int (nI (k + 1)), .ref out] M I J (rwE I p D (k + 1) out ((X.1, (TI p D k).neg X.2) : TR p D k × TR p D k)) := by
  have hpb := hI.2.2.2.1
  refine (t_mirror hT.1 hx ho hk).up (Nat.le_refl _) ?_
  rintro r M1 ⟨rfl, rfl⟩
  refine ⟨rfl, J, ?_⟩
  unfold rwE
  rw [rw8_congr (fun j hj => ?_)]
  have h1 := tV_lt (p := p) (D := D) (x := X) (j := j)
  have hf : frK (k + 1) = 2 ^ k := if_neg (by omega)
  rw [hX j hj, hI.1, hf]
  show _ = nI (if j < 2 ^ k then tV p D k X.1 j else tV p D k ((TI p D k).neg X.2) (j - 2 ^ k))
  have e : tV p D (k + 1) X j = if j < 2 ^ k then tV p D k X.1 j else tV p D k X.2 (j - 2 ^ k) := rfl
  by_cases hj2 : j < 2 ^ k
  · rw [if_neg (fun q => by omega), e, if_pos hj2, if_pos hj2]
  · rw [if_neg hj2, tV_neg]
    rw [e, if_neg hj2] at h1 ⊢
    by_cases hz : tV p D k X.2 (j - 2 ^ k) = 0
    · rw [hz, if_neg (fun q => q.2 rfl), Nat.sub_zero, Nat.mod_self]
    · rw [if_pos ⟨by omega, nI_ne0 (by omega) (by omega)⟩, pk_sub (by omega), Nat.mod_eq_of_lt (by omega)]
end El2
