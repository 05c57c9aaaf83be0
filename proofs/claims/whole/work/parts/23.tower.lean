/-! THE TOWER: level k over Fin p, its BASES given by their coordinates -/
abbrev RB : Type 1 := Σ R : Type, Lean.Grind.CommRing R × ((Nat → Nat) → R) × (R → Nat → Nat)
def tw (p : Nat) [NeZero p] (D : Nat → Nat → Nat) : Nat → RB
  | 0 => ⟨Fin p, inferInstance, fun v => Fin.ofNat p (v 0), fun x j => if j = 0 then x.val else 0⟩
  | k + 1 => ⟨(tw p D k).1 × (tw p D k).1, @qxI (tw p D k).1 (tw p D k).2.1 ((tw p D k).2.2.1 (D k)), fun v => ((tw p D k).2.2.1 v, (tw p D k).2.2.1 (fun j => v (2 ^ k + j))), fun x j => if j < 2 ^ k then (tw p D k).2.2.2 x.1 j else (tw p D k).2.2.2 x.2 (j - 2 ^ k)⟩
abbrev TR (p : Nat) [NeZero p] (D : Nat → Nat → Nat) (k : Nat) : Type := (tw p D k).1
abbrev TI (p : Nat) [NeZero p] (D : Nat → Nat → Nat) (k : Nat) : Lean.Grind.CommRing (TR p D k) := (tw p D k).2.1
def oV (p : Nat) [NeZero p] (D : Nat → Nat → Nat) (k : Nat) : (Nat → Nat) → TR p D k := (tw p D k).2.2.1
def tV (p : Nat) [NeZero p] (D : Nat → Nat → Nat) (k : Nat) : TR p D k → Nat → Nat := (tw p D k).2.2.2
section Tw
theorem oV_tV {p : Nat} [NeZero p] {D : Nat → Nat → Nat} : ∀ (k : Nat) (x : TR p D k), oV p D k (tV p D k x) = x
  | 0, x => by
    show Fin.ofNat p (if 0 = 0 then Fin.val x else 0) = x
    rw [if_pos rfl]
    exact Fin.ext (Nat.mod_eq_of_lt (Fin.isLt x))
  | k + 1, x => by
    have h1 := oV_tV (p := p) (D := D) k x.1
    have h2 := oV_tV (p := p) (D := D) k x.2
    have e : ∀ v w : Nat → Nat, (∀ j, j < 2 ^ k → v j = w j) → oV p D k v = oV p D k w := by
      intro v w h
      clear h1 h2 x
      induction k generalizing v w with
      | zero => show Fin.ofNat p (v 0) = Fin.ofNat p (w 0); rw [h 0 (by decide)]
      | succ k ih =>
        show (oV p D k v, oV p D k (fun j => v (2 ^ k + j))) = (oV p D k w, oV p D k (fun j => w (2 ^ k + j)))
        rw [ih v w (fun j hj => h j (by rw [Nat.pow_succ]; omega)), ih (fun j => v (2 ^ k + j)) (fun j => w (2 ^ k + j)) (fun j hj => h _ (by rw [Nat.pow_succ]; omega))]
    refine Prod.ext ?_ ?_
    · show oV p D k (fun j => if j < 2 ^ k then tV p D k x.1 j else tV p D k x.2 (j - 2 ^ k)) = x.1
      rw [e _ (tV p D k x.1) (fun j hj => if_pos hj)]
      exact h1
    · show oV p D k (fun j => if 2 ^ k + j < 2 ^ k then tV p D k x.1 (2 ^ k + j) else tV p D k x.2 (2 ^ k + j - 2 ^ k)) = x.2
      rw [e _ (tV p D k x.2) (fun j hj => by rw [if_neg (by omega), Nat.add_sub_cancel_left])]
      exact h2
theorem oV_congr {p : Nat} [NeZero p] {D : Nat → Nat → Nat} : ∀ {k : Nat} {v w : Nat → Nat}, (∀ j, j < 2 ^ k → v j % p = w j % p) → oV p D k v = oV p D k w
  | 0, v, w, h => Fin.ext (h 0 (by decide))
  | k + 1, v, w, h => by
    refine Prod.ext (oV_congr (k := k) (fun j hj => h j (by rw [Nat.pow_succ]; omega))) ?_
    exact oV_congr (k := k) (fun j hj => h _ (by rw [Nat.pow_succ]; omega))
theorem tV_oV {p : Nat} [NeZero p] {D : Nat → Nat → Nat} : ∀ {k : Nat} {v : Nat → Nat} {j : Nat}, j < 2 ^ k → tV p D k (oV p D k v) j = v j % p
  | 0, v, j, h => by
    have : j = 0 := by rw [Nat.pow_zero] at h; omega
    subst this
    rfl
  | k + 1, v, j, h => by
    show (if j < 2 ^ k then tV p D k (oV p D k v) j else tV p D k (oV p D k (fun i => v (2 ^ k + i))) (j - 2 ^ k)) = _
    rw [Nat.pow_succ] at h
    by_cases hj : j < 2 ^ k
    · rw [if_pos hj, tV_oV hj]
    · rw [if_neg hj, tV_oV (k := k) (by omega), show 2 ^ k + (j - 2 ^ k) = j by omega]
theorem tV_hi {p : Nat} [NeZero p] {D : Nat → Nat → Nat} : ∀ {k : Nat} {x : TR p D k} {j : Nat}, 2 ^ k ≤ j → tV p D k x j = 0
  | 0, x, j, h => by
    show (if j = 0 then Fin.val x else 0) = 0
    rw [if_neg (by rw [Nat.pow_zero] at h; omega)]
  | k + 1, x, j, h => by
    rw [Nat.pow_succ] at h
    show (if j < 2 ^ k then tV p D k x.1 j else tV p D k x.2 (j - 2 ^ k)) = 0
    rw [if_neg (by omega), tV_hi (k := k) (by omega)]
theorem tV_lt {p : Nat} [NeZero p] {D : Nat → Nat → Nat} : ∀ {k : Nat} {x : TR p D k} {j : Nat}, tV p D k x j < p
  | 0, x, j => by
    show (if j = 0 then Fin.val x else 0) < p
    split
    · exact Fin.isLt x
    · exact Nat.pos_of_ne_zero (NeZero.ne p)
  | k + 1, x, j => by
    show (if j < 2 ^ k then tV p D k x.1 j else tV p D k x.2 (j - 2 ^ k)) < p
    split
    · exact tV_lt (k := k)
    · exact tV_lt (k := k)
/-- an element is its coordinates -/
theorem tV_inj {p : Nat} [NeZero p] {D : Nat → Nat → Nat} {k : Nat} {x y : TR p D k} (h : ∀ j, j < 2 ^ k → tV p D k x j = tV p D k y j) : x = y := by
  rw [← oV_tV k x, ← oV_tV k y]
  exact oV_congr (fun j hj => by rw [h j hj])
/-- reduced coordinates of its own level -/
theorem tV_eq {p : Nat} [NeZero p] {D : Nat → Nat → Nat} {k : Nat} {v : Nat → Nat} (hv : ∀ j, v j < p) (h0 : ∀ j, 2 ^ k ≤ j → v j = 0) : tV p D k (oV p D k v) = v := by
  funext j
  by_cases hj : j < 2 ^ k
  · rw [tV_oV hj, Nat.mod_eq_of_lt (hv j)]
  · rw [tV_hi (by omega), h0 j (by omega)]
theorem oV_add {p : Nat} [NeZero p] {D : Nat → Nat → Nat} : ∀ (k : Nat) (v w : Nat → Nat), oV p D k (fun j => v j + w j) = (TI p D k).add (oV p D k v) (oV p D k w)
  | 0, v, w => Fin.ext (by
    show (v 0 + w 0) % p = (v 0 % p + w 0 % p) % p
    rw [Nat.mod_add_mod, Nat.add_mod_mod])
  | k + 1, v, w => Prod.ext (oV_add k v w) (oV_add k (fun j => v (2 ^ k + j)) (fun j => w (2 ^ k + j)))
theorem oV_zero {p : Nat} [NeZero p] {D : Nat → Nat → Nat} : ∀ (k : Nat), oV p D k (fun _ => 0) = ((TI p D k).ofNat 0).ofNat
  | 0 => rfl
  | k + 1 => Prod.ext (oV_zero k) (oV_zero k)
theorem oV_one {p : Nat} [NeZero p] {D : Nat → Nat → Nat} : ∀ (k : Nat), oV p D k (fun j => if j = 0 then 1 else 0) = ((TI p D k).ofNat 1).ofNat
  | 0 => rfl
  | k + 1 => by
    refine Prod.ext (oV_one k) ?_
    show oV p D k (fun j => if 2 ^ k + j = 0 then 1 else 0) = _
    rw [show (fun j => if 2 ^ k + j = 0 then 1 else 0) = (fun _ : Nat => 0) from funext fun j => if_neg (by have := Nat.pow_pos (n := k) (show 0 < 2 by decide); omega)]
    exact oV_zero k
/-- one level up -/
theorem oV_up {p : Nat} [NeZero p] {D : Nat → Nat → Nat} {k : Nat} {v : Nat → Nat} (h : ∀ j, 2 ^ k ≤ j → v j = 0) : oV p D (k + 1) v = (oV p D k v, oV p D k (fun _ => 0)) := by
  refine Prod.ext rfl ?_
  exact oV_congr (fun j _ => by rw [h _ (Nat.le_add_right _ _)])
end Tw
/-- the BASES below k are no squares -/
def tOk (p : Nat) [NeZero p] (D : Nat → Nat → Nat) (k : Nat) : Prop := ∀ i, i < k → ¬ @Sq (TR p D i) (TI p D i) (oV p D i (D i))
theorem tw_Fl {p : Nat} [NeZero p] {D : Nat → Nat → Nat} (hp : Pr p) (ho : p % 2 = 1) : ∀ k, tOk p D k → @Fl (TR p D k) (TI p D k) p (2 ^ k)
  | 0, _ => fin_Fl hp ho
  | k + 1, h => by
    have ih := tw_Fl hp ho k (fun i hi => h i (by omega))
    have := @Fl.up (TR p D k) (TI p D k) p (2 ^ k) ih (oV p D k (D k)) (h k (by omega))
    rw [show 2 ^ (k + 1) = 2 ^ k + 2 ^ k by rw [Nat.pow_succ]; omega]
    exact this
