/-! conjugates and orders -/
section Fix
theorem fix_add {R : Type} [I : Lean.Grind.CommRing R] {x : R} {p a b : Nat} (ha : pw x (p ^ a) = x) : pw x (p ^ (a + b)) = x ↔ pw x (p ^ b) = x := by
  rw [Nat.pow_add, pw_mul, ha]
theorem fix_mul {R : Type} [I : Lean.Grind.CommRing R] {x : R} {p a : Nat} (ha : pw x (p ^ a) = x) : ∀ c, pw x (p ^ (a * c)) = x
  | 0 => by rw [Nat.mul_zero, Nat.pow_zero, pw_1]
  | c + 1 => by rw [Nat.mul_succ, Nat.add_comm, fix_add ha]; exact fix_mul ha c
theorem fix_gcd {R : Type} [I : Lean.Grind.CommRing R] {x : R} {p : Nat} (a b : Nat) : pw x (p ^ a) = x → pw x (p ^ b) = x → pw x (p ^ Nat.gcd a b) = x := by
  induction a, b using Nat.gcd.induction with
  | H0 b => intro _ h; rw [Nat.gcd_zero_left]; exact h
  | H1 a b ha ih =>
    intro h1 h2
    rw [Nat.gcd_rec]
    refine ih ?_ h1
    have h3 : a * (b / a) + b % a = b := Nat.div_add_mod b a
    rw [← h3, fix_add (fix_mul h1 (b / a))] at h2
    exact h2
end Fix
theorem odd_pow2 {c : Nat} (hc : c % 2 = 1) : ∀ n, c ∣ 2 ^ n → c = 1
  | 0, h => by rw [Nat.pow_zero] at h; exact Nat.dvd_one.mp h
  | n + 1, h => by
    rw [Nat.pow_succ, Nat.mul_comm] at h
    have hcop : Nat.Coprime c 2 := by
      have h1 : Nat.gcd c 2 ∣ 2 := Nat.gcd_dvd_right c 2
      have h2 : Nat.gcd c 2 ∣ c := Nat.gcd_dvd_left c 2
      have h3 : Nat.gcd c 2 ≤ 2 := Nat.le_of_dvd (by decide) h1
      have h4 : Nat.gcd c 2 ≠ 2 := fun q => by rw [q] at h2; omega
      have h5 : Nat.gcd c 2 ≠ 0 := fun q => by rw [q] at h1; have := Nat.eq_zero_of_zero_dvd h1; omega
      show Nat.gcd c 2 = 1
      omega
    exact odd_pow2 hc n (Nat.Coprime.dvd_of_dvd_mul_left hcop h)
theorem dvd_half {g n : Nat} (h : g ∣ 2 ^ (n + 1)) (hne : g ≠ 2 ^ (n + 1)) : g ∣ 2 ^ n := by
  obtain ⟨c, hc⟩ := h
  by_cases h2 : c % 2 = 1
  · have h1 : c = 1 := odd_pow2 h2 (n + 1) ⟨g, by rw [hc, Nat.mul_comm]⟩
    rw [h1, Nat.mul_one] at hc
    exact absurd hc.symm hne
  · refine ⟨c / 2, ?_⟩
    have h3 : c = 2 * (c / 2) := by omega
    rw [h3, Nat.pow_succ, Nat.mul_left_comm, Nat.mul_comm (2 ^ n)] at hc
    omega
/-- x has just the level L -/
def Lev (p : Nat) [NeZero p] (D : Nat → Nat → Nat) (h : Nat) (x : TR p D h) (L : Nat) : Prop := (∀ j, 2 ^ L ≤ j → tV p D h x j = 0) ∧ ∀ k, k < L → ¬ ∀ j, 2 ^ k ≤ j → tV p D h x j = 0
/-- the conjugates come again after 2^L, and not before -/
theorem conj_iff {p : Nat} [NeZero p] {D : Nat → Nat → Nat} (hp : Pr p) (ho : p % 2 = 1) {h L : Nat} (hT : tOk p D h) (hL : L ≤ h) {x : TR p D h} (hx : Lev p D h x L) (n : Nat) : @pw (TR p D h) (TI p D h) x (p ^ n) = x ↔ 2 ^ L ∣ n := by
  have hfix : @pw (TR p D h) (TI p D h) x (p ^ 2 ^ L) = x := (lev_iff hp ho h L hT hL x).mpr hx.1
  constructor
  · intro hn
    have hg := @fix_gcd (TR p D h) (TI p D h) x p (2 ^ L) n hfix hn
    have hgd : Nat.gcd (2 ^ L) n ∣ 2 ^ L := Nat.gcd_dvd_left _ _
    by_cases e : Nat.gcd (2 ^ L) n = 2 ^ L
    · rw [← e]
      exact Nat.gcd_dvd_right _ _
    · exfalso
      cases L with
      | zero => exact e (by rw [Nat.pow_zero, Nat.gcd_one_left])
      | succ L =>
        obtain ⟨c, hc⟩ := dvd_half hgd e
        have h1 := @fix_mul (TR p D h) (TI p D h) x p _ hg c
        rw [← hc] at h1
        exact hx.2 L (by omega) ((lev_iff hp ho h L hT (by omega) x).mp h1)
  · rintro ⟨c, rfl⟩
    exact @fix_mul (TR p D h) (TI p D h) x p _ hfix c
/-- n is the order of x -/
def Ord {R : Type} [Lean.Grind.CommRing R] (x : R) (n : Nat) : Prop := 0 < n ∧ pw x n = 1 ∧ ∀ m, 0 < m → m < n → ¬ pw x m = 1
theorem ord_iff {R : Type} [I : Lean.Grind.CommRing R] {x : R} {n : Nat} (h : Ord x n) (m : Nat) : pw x m = 1 ↔ n ∣ m := by
  constructor
  · intro hm
    have h3 : n * (m / n) + m % n = m := Nat.div_add_mod m n
    rw [← h3, pw_add, pw_mul, h.2.1, pw_one] at hm
    have hm : pw x (m % n) = 1 := by grind
    by_cases h0 : m % n = 0
    · exact Nat.dvd_of_mod_eq_zero h0
    · exact absurd hm (h.2.2 _ (by omega) (Nat.mod_lt _ h.1))
  · rintro ⟨c, rfl⟩
    rw [pw_mul, h.2.1, pw_one]
/-- the order of x divides p^(2^k) - 1 from its level on -/
theorem ord_lev {p : Nat} [NeZero p] {D : Nat → Nat → Nat} (hp : Pr p) (ho : p % 2 = 1) {h L n : Nat} (hT : tOk p D h) (hL : L ≤ h) {x : TR p D h} (hx : Lev p D h x L) (hx0 : ¬ x = ((TI p D h).ofNat 0).ofNat) (hn : @Ord (TR p D h) (TI p D h) x n) {k : Nat} (hk : k ≤ h) : n ∣ p ^ 2 ^ k - 1 ↔ L ≤ k := by
  rw [← @ord_iff (TR p D h) (TI p D h) x n hn]
  have hF := tw_Fl hp ho h hT
  have hpos : p ^ 2 ^ k - 1 + 1 = p ^ 2 ^ k := by
    have : 0 < p ^ 2 ^ k := Nat.pow_pos (by have := hp.1; omega)
    omega
  have e1 : @pw (TR p D h) (TI p D h) x (p ^ 2 ^ k - 1) = ((TI p D h).ofNat 1).ofNat ↔ @pw (TR p D h) (TI p D h) x (p ^ 2 ^ k) = x := by
    letI I2 := TI p D h
    rw [← hpos]
    show pw x (p ^ 2 ^ k - 1) = 1 ↔ pw x (p ^ 2 ^ k - 1) * x = x
    constructor
    · intro q
      rw [q]
      grind
    · intro q
      have h1 : x * (pw x (p ^ 2 ^ k - 1) - 1) = 0 := by grind
      rcases hF.dm _ _ h1 with r | r
      · exact absurd r hx0
      · grind
  refine e1.trans ((lev_iff hp ho h k hT hk x).trans ?_)
  constructor
  · intro q
    apply Classical.byContradiction
    intro hc
    exact hx.2 k (by omega) q
  · intro q j hj
    exact hx.1 j (Nat.le_trans (Nat.pow_le_pow_right (by decide) q) hj)
