/-! LEVEL 2: rings without a library: powers, sums, binomials, Frobenius -/
def pw {R : Type} [Lean.Grind.CommRing R] (x : R) : Nat → R
  | 0 => 1
  | n + 1 => pw x n * x
theorem pw_add {R : Type} [Lean.Grind.CommRing R] (x : R) (m : Nat) : ∀ n, pw x (m + n) = pw x m * pw x n
  | 0 => by
    show pw x m = pw x m * 1
    grind
  | n + 1 => by
    show pw x (m + n) * x = pw x m * (pw x n * x)
    rw [pw_add x m n]
    grind
theorem pw_mul {R : Type} [Lean.Grind.CommRing R] (x : R) (m : Nat) : ∀ n, pw x (m * n) = pw (pw x m) n
  | 0 => rfl
  | n + 1 => by
    show pw x (m * n + m) = pw (pw x m) n * pw x m
    rw [pw_add, pw_mul x m n]
theorem pw_mulB {R : Type} [Lean.Grind.CommRing R] (x y : R) : ∀ n, pw (x * y) n = pw x n * pw y n
  | 0 => by
    show (1 : R) = 1 * 1
    grind
  | n + 1 => by
    show pw (x * y) n * (x * y) = pw x n * x * (pw y n * y)
    rw [pw_mulB x y n]
    grind
theorem pw_one {R : Type} [Lean.Grind.CommRing R] : ∀ n, pw (1 : R) n = 1
  | 0 => rfl
  | n + 1 => by
    show pw (1 : R) n * 1 = 1
    rw [pw_one n]
    grind
theorem pw_zero {R : Type} [Lean.Grind.CommRing R] {n : Nat} (h : n ≠ 0) : pw (0 : R) n = 0 := by
  cases n with
  | zero => exact absurd rfl h
  | succ n =>
    show pw (0 : R) n * 0 = 0
    grind
theorem pw_1 {R : Type} [Lean.Grind.CommRing R] (x : R) : pw x 1 = x := by
  show (1 : R) * x = x
  grind
theorem pw_2 {R : Type} [Lean.Grind.CommRing R] (x : R) : pw x 2 = x * x := by
  show (1 : R) * x * x = x * x
  grind
/-- n times x -/
def nm {R : Type} [Lean.Grind.CommRing R] : Nat → R → R
  | 0, _ => 0
  | n + 1, x => nm n x + x
theorem nm_add {R : Type} [Lean.Grind.CommRing R] (x : R) (m : Nat) : ∀ n, nm (m + n) x = nm m x + nm n x
  | 0 => by
    show nm m x = nm m x + 0
    grind
  | n + 1 => by
    show nm (m + n) x + x = nm m x + (nm n x + x)
    rw [nm_add x m n]
    grind
theorem nm_mulr {R : Type} [Lean.Grind.CommRing R] (x y : R) : ∀ n, nm n (x * y) = nm n x * y
  | 0 => by
    show (0 : R) = 0 * y
    grind
  | n + 1 => by
    show nm n (x * y) + x * y = (nm n x + x) * y
    rw [nm_mulr x y n]
    grind
theorem nm_mul {R : Type} [Lean.Grind.CommRing R] (x : R) (m : Nat) : ∀ n, nm (m * n) x = nm n (nm m x)
  | 0 => rfl
  | n + 1 => by
    show nm (m * n + m) x = nm n (nm m x) + nm m x
    rw [nm_add, nm_mul x m n]
theorem nm_zero {R : Type} [Lean.Grind.CommRing R] : ∀ n, nm n (0 : R) = 0
  | 0 => rfl
  | n + 1 => by
    show nm n (0 : R) + 0 = 0
    rw [nm_zero n]
    grind
theorem nm_dist {R : Type} [Lean.Grind.CommRing R] (x y : R) : ∀ n, nm n (x + y) = nm n x + nm n y
  | 0 => by
    show (0 : R) = 0 + 0
    grind
  | n + 1 => by
    show nm n (x + y) + (x + y) = nm n x + x + (nm n y + y)
    rw [nm_dist x y n]
    grind
/-- binomials -/
def bin : Nat → Nat → Nat
  | _, 0 => 1
  | 0, _ + 1 => 0
  | n + 1, k + 1 => bin n k + bin n (k + 1)
theorem bin_0 (n : Nat) : bin n 0 = 1 := by cases n <;> rfl
theorem bin_gt : ∀ (n k : Nat), n < k → bin n k = 0
  | 0, 0, h => by omega
  | 0, k + 1, _ => rfl
  | n + 1, 0, h => by omega
  | n + 1, k + 1, h => by
    show bin n k + bin n (k + 1) = 0
    rw [bin_gt n k (by omega), bin_gt n (k + 1) (by omega)]
theorem bin_nn : ∀ n, bin n n = 1
  | 0 => rfl
  | n + 1 => by
    show bin n n + bin n (n + 1) = 1
    rw [bin_nn n, bin_gt n (n + 1) (by omega)]
/-- (k + 1) C(n + 1, k + 1) = (n + 1) C(n, k) -/
theorem bin_abs : ∀ (n k : Nat), (k + 1) * bin (n + 1) (k + 1) = (n + 1) * bin n k
  | 0, 0 => rfl
  | 0, k + 1 => by
    show (k + 2) * (bin 0 (k + 1) + bin 0 (k + 2)) = 1 * bin 0 (k + 1)
    have h1 : bin 0 (k + 1) = 0 := rfl
    have h2 : bin 0 (k + 2) = 0 := rfl
    rw [h1, h2]
    omega
  | n + 1, 0 => by
    have h := bin_abs n 0
    rw [bin_0] at h ⊢
    show (0 + 1) * (bin (n + 1) 0 + bin (n + 1) 1) = (n + 1 + 1) * 1
    rw [bin_0]
    have h : 1 * bin (n + 1) 1 = (n + 1) * 1 := h
    omega
  | n + 1, k + 1 => by
    have h1 := bin_abs n k
    have h2 := bin_abs n (k + 1)
    have e1 : bin (n + 1 + 1) (k + 1 + 1) = bin (n + 1) (k + 1) + bin (n + 1) (k + 2) := rfl
    have e2 : bin (n + 1) (k + 1) = bin n k + bin n (k + 1) := rfl
    rw [e1, Nat.mul_add]
    have e3 : (k + 1 + 1) * bin (n + 1) (k + 1) = (k + 1) * bin (n + 1) (k + 1) + bin (n + 1) (k + 1) := by rw [Nat.succ_mul]
    rw [e3, h1, h2]
    have e4 : (n + 1 + 1) * bin (n + 1) (k + 1) = (n + 1) * bin (n + 1) (k + 1) + bin (n + 1) (k + 1) := by rw [Nat.succ_mul]
    rw [e4, e2, Nat.mul_add]
    omega
/-- a prime, plainly -/
def Pr (p : Nat) : Prop := 2 ≤ p ∧ ∀ d, d ∣ p → d = 1 ∨ d = p
theorem Pr.gcd {p a : Nat} (h : Pr p) (ha : ¬ p ∣ a) : Nat.gcd p a = 1 := by
  rcases h.2 (Nat.gcd p a) (Nat.gcd_dvd_left p a) with e | e
  · exact e
  · exact absurd (by rw [← e]; exact Nat.gcd_dvd_right p a) ha
theorem Pr.dvd {p a b : Nat} (h : Pr p) (hab : p ∣ a * b) : p ∣ a ∨ p ∣ b := by
  by_cases ha : p ∣ a
  · exact Or.inl ha
  · exact Or.inr (Nat.Coprime.dvd_of_dvd_mul_left (h.gcd ha) hab)
theorem bin_pr {p k : Nat} (h : Pr p) (hk : 0 < k) (hkp : k < p) : p ∣ bin p k := by
  obtain ⟨n, rfl⟩ : ∃ n, p = n + 1 := ⟨p - 1, by have := h.1; omega⟩
  obtain ⟨j, rfl⟩ : ∃ j, k = j + 1 := ⟨k - 1, by omega⟩
  have h1 : (n + 1) ∣ (j + 1) * bin (n + 1) (j + 1) := by rw [bin_abs]; exact Nat.dvd_mul_right _ _
  rcases h.dvd h1 with q | q
  · exact absurd (Nat.le_of_dvd (by omega) q) (by omega)
  · exact q
/-- the sum of f 0 .. f (n - 1) -/
def sm {R : Type} [Lean.Grind.CommRing R] (f : Nat → R) : Nat → R
  | 0 => 0
  | n + 1 => sm f n + f n
theorem sm_add {R : Type} [Lean.Grind.CommRing R] (f g : Nat → R) : ∀ n, sm (fun i => f i + g i) n = sm f n + sm g n
  | 0 => by
    show (0 : R) = 0 + 0
    grind
  | n + 1 => by
    show sm (fun i => f i + g i) n + (f n + g n) = sm f n + f n + (sm g n + g n)
    rw [sm_add f g n]
    grind
theorem sm_mul {R : Type} [Lean.Grind.CommRing R] (f : Nat → R) (c : R) : ∀ n, sm (fun i => f i * c) n = sm f n * c
  | 0 => by
    show (0 : R) = 0 * c
    grind
  | n + 1 => by
    show sm (fun i => f i * c) n + f n * c = (sm f n + f n) * c
    rw [sm_mul f c n]
    grind
theorem sm_congr {R : Type} [Lean.Grind.CommRing R] {f g : Nat → R} : ∀ {n : Nat}, (∀ i, i < n → f i = g i) → sm f n = sm g n
  | 0, _ => rfl
  | n + 1, h => by
    show sm f n + f n = sm g n + g n
    rw [sm_congr (fun i hi => h i (by omega)), h n (by omega)]
theorem sm_zero {R : Type} [Lean.Grind.CommRing R] {f : Nat → R} : ∀ {n : Nat}, (∀ i, i < n → f i = 0) → sm f n = 0
  | 0, _ => rfl
  | n + 1, h => by
    show sm f n + f n = 0
    rw [sm_zero (fun i hi => h i (by omega)), h n (by omega)]
    grind
/-- the first one taken off -/
theorem sm_head {R : Type} [Lean.Grind.CommRing R] (f : Nat → R) : ∀ n, sm f (n + 1) = f 0 + sm (fun i => f (i + 1)) n
  | 0 => by
    show (0 : R) + f 0 = f 0 + 0
    grind
  | n + 1 => by
    show sm f (n + 1) + f (n + 1) = f 0 + (sm (fun i => f (i + 1)) n + f (n + 1))
    rw [sm_head f n]
    grind
/-- the binomial theorem -/
theorem binom {R : Type} [Lean.Grind.CommRing R] (x y : R) : ∀ n, pw (x + y) n = sm (fun i => nm (bin n i) (pw x i * pw y (n - i))) (n + 1)
  | 0 => by
    show (1 : R) = 0 + (0 + 1 * 1)
    grind
  | n + 1 => by
    show pw (x + y) n * (x + y) = _
    rw [binom x y n]
    have hr : ∀ (f : Nat → R) (c : R) (m : Nat), sm f m * c = sm (fun i => f i * c) m := fun f c m => (sm_mul f c m).symm
    have e1 : sm (fun i => nm (bin n i) (pw x i * pw y (n - i))) (n + 1) * (x + y) = sm (fun i => nm (bin n i) (pw x (i + 1) * pw y (n - i))) (n + 1) + sm (fun i => nm (bin n i) (pw x i * pw y (n + 1 - i))) (n + 1) := by
      rw [show ∀ z : R, z * (x + y) = z * x + z * y from fun z => by grind, hr, hr]
      congr 1
      · refine sm_congr (fun i hi => ?_)
        rw [← nm_mulr]
        congr 1
        show pw x i * pw y (n - i) * x = pw x i * x * pw y (n - i)
        grind
      · refine sm_congr (fun i hi => ?_)
        rw [← nm_mulr]
        congr 1
        rw [show n + 1 - i = (n - i) + 1 by omega]
        show pw x i * pw y (n - i) * y = pw x i * (pw y (n - i) * y)
        grind
    rw [e1]
    -- the right side
    rw [sm_head (fun i => nm (bin (n + 1) i) (pw x i * pw y (n + 1 - i))) (n + 1)]
    have e2 : sm (fun i => nm (bin (n + 1) (i + 1)) (pw x (i + 1) * pw y (n + 1 - (i + 1)))) (n + 1) = sm (fun i => nm (bin n i) (pw x (i + 1) * pw y (n - i))) (n + 1) + sm (fun i => nm (bin n (i + 1)) (pw x (i + 1) * pw y (n - i))) (n + 1) := by
      rw [← sm_add]
      refine sm_congr (fun i hi => ?_)
      rw [show n + 1 - (i + 1) = n - i by omega]
      show nm (bin n i + bin n (i + 1)) _ = _
      rw [nm_add]
    rw [e2]
    have e3 : sm (fun i => nm (bin n i) (pw x i * pw y (n + 1 - i))) (n + 1) = nm (bin (n + 1) 0) (pw x 0 * pw y (n + 1 - 0)) + sm (fun i => nm (bin n (i + 1)) (pw x (i + 1) * pw y (n - i))) (n + 1) := by
      rw [sm_head, bin_0, bin_0]
      congr 1
      show _ = sm (fun i => nm (bin n (i + 1)) (pw x (i + 1) * pw y (n - i))) n + nm (bin n (n + 1)) (pw x (n + 1) * pw y (n - n))
      rw [bin_gt n (n + 1) (by omega)]
      show _ = sm (fun i => nm (bin n (i + 1)) (pw x (i + 1) * pw y (n - i))) n + 0
      rw [show ∀ z : R, z + 0 = z from fun z => by grind]
      exact sm_congr (fun i hi => by rw [show n + 1 - (i + 1) = n - i by omega])
    rw [e3]
    grind
/-- FROBENIUS adds, where p times anything is 0 -/
theorem frob {R : Type} [Lean.Grind.CommRing R] {p : Nat} (hp : Pr p) (hc : ∀ x : R, nm p x = 0) (x y : R) : pw (x + y) p = pw x p + pw y p := by
  obtain ⟨n, hn⟩ : ∃ n, p = n + 1 := ⟨p - 1, by have := hp.1; omega⟩
  rw [binom, sm_head]
  have e : sm (fun i => nm (bin p (i + 1)) (pw x (i + 1) * pw y (p - (i + 1)))) p = pw x p := by
    rw [hn]
    show sm (fun i => nm (bin (n + 1) (i + 1)) (pw x (i + 1) * pw y (n + 1 - (i + 1)))) n + nm (bin (n + 1) (n + 1)) (pw x (n + 1) * pw y (n + 1 - (n + 1))) = _
    rw [sm_zero, bin_nn, Nat.sub_self]
    · show (0 : R) + (0 + pw x (n + 1) * 1) = _
      grind
    · intro i hi
      obtain ⟨c, hcc⟩ := bin_pr (k := i + 1) hp (by omega) (by omega)
      rw [← hn, hcc, nm_mul, hc, nm_zero]
  rw [e, bin_0]
  show (0 : R) + 1 * pw y p + pw x p = _
  grind
