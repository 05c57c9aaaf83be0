/-! polynomials: coefficients as functions, products of (t - r) -/
def shf {R : Type} [Lean.Grind.CommRing R] (P : Nat → R) : Nat → R
  | 0 => 0
  | k + 1 => P k
def mrt {R : Type} [Lean.Grind.CommRing R] (r : R) (P : Nat → R) : Nat → R := fun k => shf P k - P k * r
def prd {R : Type} [Lean.Grind.CommRing R] : List R → Nat → R
  | [] => fun k => if k = 0 then 1 else 0
  | r :: rs => mrt r (prd rs)
theorem mrt_comm {R : Type} [Lean.Grind.CommRing R] (a b : R) (P : Nat → R) : mrt a (mrt b P) = mrt b (mrt a P) := by
  funext k
  cases k with
  | zero =>
    show (0 : R) - (0 - P 0 * b) * a = 0 - (0 - P 0 * a) * b
    grind
  | succ k =>
    show (shf P k - P k * b) - (P k - P (k + 1) * b) * a = (shf P k - P k * a) - (P k - P (k + 1) * a) * b
    grind
theorem prd_perm {R : Type} [Lean.Grind.CommRing R] {l l' : List R} (h : l.Perm l') : prd l = prd l' := by
  induction h with
  | nil => rfl
  | cons x _ ih =>
    show mrt x (prd _) = mrt x (prd _)
    rw [ih]
  | swap x y l => exact mrt_comm y x (prd l)
  | trans _ _ ih1 ih2 => exact ih1.trans ih2
theorem prd_hi {R : Type} [Lean.Grind.CommRing R] : ∀ (l : List R) (k : Nat), l.length < k → prd l k = 0
  | [], k, h => if_neg (by have : 0 < k := h; omega)
  | r :: rs, 0, h => absurd h (Nat.not_lt_zero _)
  | r :: rs, k + 1, h => by
    have h : rs.length + 1 < k + 1 := h
    show prd rs k - prd rs (k + 1) * r = 0
    rw [prd_hi rs k (by omega), prd_hi rs (k + 1) (by omega)]
    grind
def cnv {R : Type} [Lean.Grind.CommRing R] (P Q : Nat → R) (k : Nat) : R := sm (fun i => P i * Q (k - i)) (k + 1)
theorem sm_sub {R : Type} [Lean.Grind.CommRing R] (f g : Nat → R) : ∀ n, sm (fun i => f i - g i) n = sm f n - sm g n
  | 0 => by
    show (0 : R) = 0 - 0
    grind
  | n + 1 => by
    show sm (fun i => f i - g i) n + (f n - g n) = (sm f n + f n) - (sm g n + g n)
    rw [sm_sub f g n]
    grind
theorem cnv_one {R : Type} [Lean.Grind.CommRing R] (Q : Nat → R) : cnv (prd []) Q = Q := by
  funext k
  unfold cnv
  rw [sm_head]
  have e : sm (fun i => prd [] (i + 1) * Q (k - (i + 1))) k = 0 := sm_zero (fun i _ => by
    show (if i + 1 = 0 then (1 : R) else 0) * Q (k - (i + 1)) = 0
    rw [if_neg (by omega)]
    grind)
  rw [e]
  show (1 : R) * Q (k - 0) + 0 = Q k
  rw [Nat.sub_zero]
  grind
theorem cnv_mrt {R : Type} [Lean.Grind.CommRing R] (a : R) (P Q : Nat → R) : cnv (mrt a P) Q = mrt a (cnv P Q) := by
  funext k
  have e1 : cnv (mrt a P) Q k = sm (fun i => shf P i * Q (k - i)) (k + 1) - sm (fun i => P i * Q (k - i)) (k + 1) * a := by
    rw [← sm_mul, ← sm_sub]
    refine sm_congr (fun i _ => ?_)
    show (shf P i - P i * a) * Q (k - i) = shf P i * Q (k - i) - P i * Q (k - i) * a
    grind
  have e2 : sm (fun i => shf P i * Q (k - i)) (k + 1) = shf (cnv P Q) k := by
    rw [sm_head]
    cases k with
    | zero =>
      show (0 : R) * Q 0 + 0 = 0
      grind
    | succ j =>
      have e : sm (fun i => shf P (i + 1) * Q (j + 1 - (i + 1))) (j + 1) = cnv P Q j := sm_congr (fun i _ => by
        show P i * Q (j + 1 - (i + 1)) = P i * Q (j - i)
        rw [Nat.add_sub_add_right])
      rw [e]
      show (0 : R) * Q (j + 1 - 0) + cnv P Q j = cnv P Q j
      grind
  rw [e1, e2]
  rfl
theorem cnv_prd {R : Type} [Lean.Grind.CommRing R] (bs : List R) : ∀ as : List R, cnv (prd as) (prd bs) = prd (as ++ bs)
  | [] => cnv_one _
  | a :: as => by
    show cnv (mrt a (prd as)) (prd bs) = mrt a (prd (as ++ bs))
    rw [cnv_mrt, cnv_prd bs as]
/-- a map that keeps sums and products -/
def Hm {R : Type} [Lean.Grind.CommRing R] (f : R → R) : Prop := (∀ x y, f (x - y) = f x - f y) ∧ (∀ x y, f (x * y) = f x * f y) ∧ f 0 = 0 ∧ f 1 = 1
theorem Hm.pm {R : Type} [Lean.Grind.CommRing R] {f : R → R} (hf : Hm f) : ∀ (l : List R) (k : Nat), f (prd l k) = prd (l.map f) k
  | [], k => by
    show f (if k = 0 then 1 else 0) = if k = 0 then 1 else 0
    split
    · exact hf.2.2.2
    · exact hf.2.2.1
  | r :: rs, 0 => by
    show f (0 - prd rs 0 * r) = 0 - prd (rs.map f) 0 * f r
    rw [hf.1, hf.2.1, hf.2.2.1, Hm.pm hf rs 0]
  | r :: rs, k + 1 => by
    show f (prd rs k - prd rs (k + 1) * r) = prd (rs.map f) k - prd (rs.map f) (k + 1) * f r
    rw [hf.1, hf.2.1, Hm.pm hf rs k, Hm.pm hf rs (k + 1)]
theorem Fl.hm {R : Type} [I : Lean.Grind.CommRing R] {p e : Nat} (h : Fl R p e) (c : Nat) : Hm (fun x : R => pw x (p ^ c)) := by
  refine ⟨fun x y => ?_, fun x y => pw_mulB x y _, pw_zero ?_, pw_one _⟩
  · have e1 := frob_e h.pr h.ch (x - y) y c
    rw [show x - y + y = x by grind] at e1
    show pw (x - y) (p ^ c) = pw x (p ^ c) - pw y (p ^ c)
    rw [e1]
    grind
  · have := h.pr.1
    have : 0 < p ^ c := Nat.pow_pos (by omega)
    omega
/-- one stage: a product times its mirror comes lower -/
theorem mir_fix {R : Type} [I : Lean.Grind.CommRing R] {f : R → R} (hf : Hm f) {l : List R} (h2 : ∀ i, f (f (prd l i)) = prd l i) (i : Nat) : f (prd (l ++ l.map f) i) = prd (l ++ l.map f) i := by
  have e2 : prd ((l.map f).map f) = prd l := by
    funext j
    rw [← hf.pm, ← hf.pm]
    exact h2 j
  rw [hf.pm, List.map_append, ← cnv_prd, e2, cnv_prd]
  exact congrFun (prd_perm List.perm_append_comm) i
/-- what a double loop sums up -/
def tmS' {R : Type} [Lean.Grind.CommRing R] (P Q : Nat → R) (b k i : Nat) : R := if i ≤ k ∧ k - i < b then P i * Q (k - i) else 0
def acc {R : Type} [Lean.Grind.CommRing R] (P Q : Nat → R) (l i j k : Nat) : R := sm (fun a => tmS' P Q (l + 1) k a) i + tmS' P Q j k i
theorem acc_0 {R : Type} [Lean.Grind.CommRing R] {P Q : Nat → R} {l k : Nat} : acc P Q l 0 0 k = 0 := by
  unfold acc tmS'
  rw [if_neg (by omega)]
  show (0 : R) + 0 = 0
  grind
theorem acc_j {R : Type} [Lean.Grind.CommRing R] {P Q : Nat → R} {l i j : Nat} : acc P Q l i (j + 1) (i + j) = acc P Q l i j (i + j) + P i * Q j := by
  unfold acc tmS'
  rw [if_pos (by omega), if_neg (by omega), Nat.add_sub_cancel_left]
  grind
theorem acc_n {R : Type} [Lean.Grind.CommRing R] {P Q : Nat → R} {l i j k : Nat} (h : k ≠ i + j) : acc P Q l i (j + 1) k = acc P Q l i j k := by
  unfold acc tmS'
  by_cases c : i ≤ k ∧ k - i < j
  · rw [if_pos c, if_pos (by omega)]
  · rw [if_neg c, if_neg (by omega)]
theorem acc_i {R : Type} [Lean.Grind.CommRing R] {P Q : Nat → R} {l i k : Nat} : acc P Q l i (l + 1) k = acc P Q l (i + 1) 0 k := by
  have e : tmS' P Q 0 k (i + 1) = 0 := if_neg (by omega)
  unfold acc
  rw [e]
  show sm (fun a => tmS' P Q (l + 1) k a) i + tmS' P Q (l + 1) k i = (sm (fun a => tmS' P Q (l + 1) k a) i + tmS' P Q (l + 1) k i) + 0
  grind
theorem sm_stop {R : Type} [Lean.Grind.CommRing R] {f : Nat → R} {n : Nat} (h : ∀ i, n ≤ i → f i = 0) : ∀ c, sm f (n + c) = sm f n
  | 0 => rfl
  | c + 1 => by
    show sm f (n + c) + f (n + c) = sm f n
    rw [sm_stop h c, h _ (by omega)]
    grind
theorem acc_f {R : Type} [Lean.Grind.CommRing R] {P Q : Nat → R} {l k : Nat} (hP : ∀ i, l < i → P i = 0) (hQ : ∀ i, l < i → Q i = 0) : acc P Q l (l + 1) 0 k = cnv P Q k := by
  have e : tmS' P Q 0 k (l + 1) = 0 := if_neg (by omega)
  unfold acc
  rw [e]
  have hz : ∀ x : R, 0 * x = 0 := fun x => by grind
  have hz2 : ∀ x : R, x * 0 = 0 := fun x => by grind
  have e1 : sm (fun a => tmS' P Q (l + 1) k a) (l + 1) = sm (fun a => if a ≤ k then P a * Q (k - a) else 0) (l + 1) := sm_congr (fun a ha => by
    show (if a ≤ k ∧ k - a < l + 1 then P a * Q (k - a) else 0) = if a ≤ k then P a * Q (k - a) else 0
    by_cases c : a ≤ k
    · rw [if_pos c]
      by_cases c2 : k - a < l + 1
      · rw [if_pos ⟨c, c2⟩]
      · rw [if_neg (fun w => c2 w.2), hQ (k - a) (by omega), hz2]
    · rw [if_neg c, if_neg (fun w => c w.1)])
  have e2 : cnv P Q k = sm (fun a => if a ≤ k then P a * Q (k - a) else 0) (k + 1) := sm_congr (fun a ha => (if_pos (by omega)).symm)
  have e3 := sm_stop (f := fun a => if a ≤ k then P a * Q (k - a) else 0) (n := l + 1) (fun i hi => by
    show (if i ≤ k then P i * Q (k - i) else 0) = 0
    rw [hP i (by omega), hz]
    split <;> rfl) (k + 1)
  have e4 := sm_stop (f := fun a => if a ≤ k then P a * Q (k - a) else 0) (n := k + 1) (fun i hi => if_neg (by omega)) (l + 1)
  rw [e1, e2, ← e3, ← e4, Nat.add_comm (l + 1) (k + 1)]
  grind
/-- the exponents, in the class's order and in the model's -/
def exs (L : Nat) : Nat → List Nat
  | 0 => [0]
  | j + 1 => exs L j ++ (exs L j).map (fun e => e + 2 ^ (L - 1 - j))
def dwn : Nat → List Nat
  | 0 => []
  | c + 1 => c :: dwn c
theorem exs_len (L : Nat) : ∀ j, (exs L j).length = 2 ^ j
  | 0 => rfl
  | j + 1 => by
    show (exs L j ++ (exs L j).map (fun e => e + 2 ^ (L - 1 - j))).length = 2 ^ (j + 1)
    rw [List.length_append, List.length_map, exs_len L j, Nat.pow_succ]
    omega
theorem exs_dwn : ∀ L, L < 4 → (exs L L).Perm (dwn (2 ^ L)) := by decide
