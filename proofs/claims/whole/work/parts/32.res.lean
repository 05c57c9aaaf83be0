/-! residues of any int; Tower.setResidue, Tower.rootAt -/
def rs (x : Int32) (p : Nat) : Nat := (x.toInt % (p : Int)).toNat
theorem rs_lt {x : Int32} {p : Nat} (hp : 0 < p) : rs x p < p := by
  unfold rs
  have h1 := Int.emod_nonneg x.toInt (b := (p : Int)) (by omega)
  have h2 := Int.emod_lt_of_pos x.toInt (b := (p : Int)) (by omega)
  omega
theorem rs_nI {a p : Nat} (h : a < p) (hp : p < 2 ^ 31) : rs (nI a) p = a := by
  unfold rs
  rw [nI_toInt (by omega), ← Int.natCast_emod, Nat.mod_eq_of_lt h]
  rfl
theorem i_bnd (x : Int32) : -2147483648 ≤ x.toInt ∧ x.toInt ≤ 2147483647 := ⟨Int32.le_toInt x, Int32.toInt_le x⟩
theorem bmod_id {x : Int} (h1 : -2147483648 ≤ x) (h2 : x ≤ 2147483647) : x.bmod (2 ^ 32) = x := by
  rw [Int.bmod_def]
  split <;> omega
theorem i_rem (x : Int32) {p : Nat} (hp : 1 < p) (h2 : p < 2 ^ 31) : (x - x / nI p * nI p).toInt = x.toInt.tmod p := by
  obtain ⟨b1, b2⟩ := i_bnd x
  have e := Int.mul_tdiv_add_tmod x.toInt (p : Int)
  have ex : (p : Int) * x.toInt.tdiv p = x.toInt.tdiv p + ((p : Int) - 1) * x.toInt.tdiv p := by
    rw [Int.sub_mul]
    omega
  have key : (-2147483648 ≤ x.toInt.tdiv p ∧ x.toInt.tdiv p ≤ 2147483647) ∧ (-2147483648 ≤ (p : Int) * x.toInt.tdiv p ∧ (p : Int) * x.toInt.tdiv p ≤ 2147483647) ∧ (-2147483648 ≤ x.toInt.tmod p ∧ x.toInt.tmod p ≤ 2147483647) := by
    by_cases hx : 0 ≤ x.toInt
    · have h3 := Int.tmod_nonneg (p : Int) hx
      have h4 : 0 ≤ x.toInt.tdiv p := Int.tdiv_nonneg hx (by omega)
      have h5 : 0 ≤ (p : Int) * x.toInt.tdiv p := Int.mul_nonneg (by omega) h4
      have h6 : 0 ≤ ((p : Int) - 1) * x.toInt.tdiv p := Int.mul_nonneg (by omega) h4
      omega
    · have h3 : x.toInt.tmod p ≤ 0 := by
        have := Int.tmod_nonneg (p : Int) (show 0 ≤ -x.toInt by omega)
        rw [Int.neg_tmod] at this
        omega
      have h4 : 0 ≤ (-x.toInt).tdiv p := Int.tdiv_nonneg (by omega) (by omega)
      rw [Int.neg_tdiv] at h4
      have h5 := Int.mul_nonneg (show 0 ≤ (p : Int) by omega) h4
      have h6 := Int.mul_nonneg (show 0 ≤ (p : Int) - 1 by omega) h4
      rw [Int.mul_neg] at h5 h6
      omega
  rw [Int.mul_comm] at e key
  rw [Int32.toInt_sub, Int32.toInt_mul, Int32.toInt_div, nI_toInt h2, bmod_id key.1.1 key.1.2, bmod_id key.2.1.1 key.2.1.2, show x.toInt - x.toInt.tdiv p * p = x.toInt.tmod p by omega, bmod_id key.2.2.1 key.2.2.2]
theorem i_neg (x y : Int32) : x < y ↔ x.toInt < y.toInt := Int32.lt_iff_toInt_lt
theorem i_ext {x y : Int32} (h : x.toInt = y.toInt) : x = y := Int32.toInt_inj.mp h
theorem i_xor {x : Int32} {p : Nat} (h2 : p < 2 ^ 31) : (x ^^^ nI p) < 0 ↔ x < 0 := by
  have h1 : ∀ z : Int32, z < 0 ↔ z.toBitVec.msb = true := fun z => by
    rw [i_neg, BitVec.msb_eq_toInt, decide_eq_true_eq]
    exact Iff.rfl
  rw [h1, h1]
  show (x.toBitVec ^^^ (nI p).toBitVec).msb = true ↔ _
  have h3 : (nI p).toBitVec.msb = false := by
    cases hb : (nI p).toBitVec.msb with
    | false => rfl
    | true => exact absurd ((h1 _).mpr hb) (nI_pos h2)
  rw [BitVec.msb_xor, h3, Bool.xor_false]
/-- what Math.floorMod answers -/
theorem i_fmod (x : Int32) {p : Nat} (hp : 1 < p) (h2 : p < 2 ^ 31) : (if (x ^^^ nI p) < 0 ∧ ¬ (x - x / nI p * nI p) = 0 then (x - x / nI p * nI p) + nI p else (x - x / nI p * nI p)) = nI (rs x p) := by
  have hr := i_rem x hp h2
  have hlt := rs_lt (x := x) (p := p) (by omega)
  have h9 : ((rs x p : Nat) : Int) = x.toInt % (p : Int) := by
    unfold rs
    have h1 := Int.emod_nonneg x.toInt (b := (p : Int)) (by omega)
    omega
  refine i_ext ?_
  rw [nI_toInt (by omega), h9]
  have hz : (x - x / nI p * nI p) = 0 ↔ x.toInt.tmod p = 0 := by
    rw [← hr]
    exact ⟨fun q => by rw [q]; rfl, fun q => i_ext (q.trans rfl)⟩
  have hem := Int.tmod_eq_emod (a := x.toInt) (b := (p : Int))
  have h1 := Int.emod_nonneg x.toInt (b := (p : Int)) (by omega)
  have h3 := Int.emod_lt_of_pos x.toInt (b := (p : Int)) (by omega)
  have hdv : (p : Int) ∣ x.toInt ↔ x.toInt % (p : Int) = 0 := Int.dvd_iff_emod_eq_zero
  by_cases hc : (x ^^^ nI p) < 0 ∧ ¬ (x - x / nI p * nI p) = 0
  · rw [if_pos hc]
    obtain ⟨c1, c2⟩ := hc
    rw [i_xor h2, i_neg] at c1
    have c1 : x.toInt < 0 := c1
    rw [hz] at c2
    rw [Int32.toInt_add, hr, nI_toInt h2]
    by_cases hd : (p : Int) ∣ x.toInt
    · rw [if_pos (Or.inr hd)] at hem
      rw [hdv] at hd
      omega
    · rw [if_neg (fun q => q.elim (by omega) hd)] at hem
      rw [bmod_id] <;> omega
  · rw [if_neg hc, hr]
    by_cases hx : 0 ≤ x.toInt
    · rw [if_pos (Or.inl hx)] at hem
      omega
    · have hx0 : x < 0 := (i_neg x 0).mpr (show x.toInt < 0 by omega)
      have h0 : x.toInt.tmod p = 0 := by
        apply Classical.byContradiction
        intro q
        exact hc ⟨(i_xor h2).mpr hx0, fun w => q (hz.mp w)⟩
      by_cases hd : (p : Int) ∣ x.toInt
      · rw [if_pos (Or.inr hd)] at hem
        omega
      · rw [if_neg (fun q => q.elim hx hd)] at hem
        omega
