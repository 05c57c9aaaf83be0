/-! squares by norms; roots up to sign; levels by Frobenius -/
/-- the norm down to the residues -/
def nc (p : Nat) [NeZero p] (D : Nat → Nat → Nat) : (k : Nat) → TR p D k → Fin p
  | 0, x => x
  | k + 1, x => nc p D k (@nrm (TR p D k) (TI p D k) (oV p D k (D k)) x)
theorem Sq_nrm {R : Type} [I : Lean.Grind.CommRing R] {p e : Nat} (h : Fl R p e) {D : R} (hD : ¬ Sq D) (x : R × R) : @Sq (R × R) (qxI D) x ↔ Sq (nrm D x) := by
  constructor
  · rintro ⟨y, rfl⟩
    exact ⟨nrm D y, (nrm_mul D y y).symm⟩
  · exact root_pair h hD
theorem Fl.sq_iff {R : Type} [I : Lean.Grind.CommRing R] {p e : Nat} (h : Fl R p e) (x : R) : Sq x ↔ x = 0 ∨ pw x ((p ^ e - 1) / 2) = 1 := by
  constructor
  · intro hs
    by_cases hx : x = 0
    · exact Or.inl hx
    · exact Or.inr (h.sq1 hx hs)
  · rintro (rfl | q)
    · exact ⟨0, by grind⟩
    · exact h.eu x q
theorem nc_sq {p : Nat} [NeZero p] {D : Nat → Nat → Nat} (hp : Pr p) (ho : p % 2 = 1) : ∀ (k : Nat), tOk p D k → ∀ x : TR p D k, @Sq (TR p D k) (TI p D k) x ↔ (nc p D k x = 0 ∨ pw (nc p D k x) ((p - 1) / 2) = 1)
  | 0, _, x => by
    have := (fin_Fl hp ho).sq_iff x
    rw [Nat.pow_one] at this
    exact this
  | k + 1, h, x => by
    have hF := tw_Fl hp ho k (fun i hi => h i (by omega))
    exact (@Sq_nrm (TR p D k) (TI p D k) p (2 ^ k) hF (oV p D k (D k)) (h k (by omega)) x).trans (nc_sq hp ho k (fun i hi => h i (by omega)) _)
theorem nc_zero {p : Nat} [NeZero p] {D : Nat → Nat → Nat} (hp : Pr p) (ho : p % 2 = 1) : ∀ (k : Nat), tOk p D k → ∀ x : TR p D k, nc p D k x = 0 → x = ((TI p D k).ofNat 0).ofNat
  | 0, _, x, hx => hx
  | k + 1, h, x, hx => by
    have hF := tw_Fl hp ho k (fun i hi => h i (by omega))
    exact @nrm_ne (TR p D k) (TI p D k) p (2 ^ k) hF (oV p D k (D k)) (h k (by omega)) x (nc_zero hp ho k (fun i hi => h i (by omega)) _ hx)
theorem Fl.roots {R : Type} [I : Lean.Grind.CommRing R] {p e : Nat} (h : Fl R p e) {x y : R} (hxy : x * x = y * y) : x = y ∨ x = -y := by
  have h1 : (x - y) * (x + y) = 0 := by grind
  rcases h.dm _ _ h1 with q | q
  · left; grind
  · right; grind
theorem Fl.neg0 {R : Type} [I : Lean.Grind.CommRing R] {p e : Nat} (h : Fl R p e) {x : R} (hx : -x = x) : x = 0 := by
  obtain ⟨k, hk⟩ := h.two
  have h1 : (1 + 1) * x = 0 := by grind
  have h2 : k * ((1 + 1) * x) = 0 := by rw [h1]; grind
  have h4 : (1 + 1) * k * x = x := by rw [hk]; grind
  have h5 : (1 + 1) * k * x = k * ((1 + 1) * x) := by grind
  exact h4.symm.trans (h5.trans h2)
/-- Frobenius again and again -/
theorem pw_iter {R : Type} [I : Lean.Grind.CommRing R] {x : R} {q : Nat} (h : pw x q = x) : ∀ n, pw x (q ^ n) = x
  | 0 => by rw [Nat.pow_zero, pw_1]
  | n + 1 => by rw [Nat.pow_succ, pw_mul, pw_iter h n, h]
/-- LEVELS: what the Frobenius of level k leaves as it is, has no coordinates beyond 2^k -/
theorem lev_iff {p : Nat} [NeZero p] {D : Nat → Nat → Nat} (hp : Pr p) (ho : p % 2 = 1) : ∀ (h k : Nat), tOk p D h → k ≤ h → ∀ x : TR p D h, (@pw (TR p D h) (TI p D h) x (p ^ 2 ^ k) = x ↔ ∀ j, 2 ^ k ≤ j → tV p D h x j = 0)
  | 0, k, hT, hk, x => by
    obtain rfl : k = 0 := by omega
    refine ⟨fun _ j hj => tV_hi hj, fun _ => @Fl.fx (TR p D 0) (TI p D 0) p (2 ^ 0) (tw_Fl hp ho 0 hT) x⟩
  | h + 1, k, hT, hk, x => by
    have hT' : tOk p D h := fun i hi => hT i (by omega)
    have hF := tw_Fl hp ho h hT'
    by_cases e : k = h + 1
    · subst e
      exact ⟨fun _ j hj => tV_hi hj, fun _ => @Fl.fx (TR p D (h + 1)) (TI p D (h + 1)) p (2 ^ (h + 1)) (tw_Fl hp ho (h + 1) hT) x⟩
    · have hkh : k ≤ h := by omega
      have ih := lev_iff hp ho h k hT' hkh x.1
      have hle : 2 ^ k ≤ 2 ^ h := Nat.pow_le_pow_right (by decide) hkh
      constructor
      · intro hx j hj
        -- the Frobenius of level h: the second half is 0
        have h1 : @pw (TR p D (h + 1)) (TI p D (h + 1)) x (p ^ 2 ^ h) = x := by
          have h9 := @pw_iter (TR p D (h + 1)) (TI p D (h + 1)) x (p ^ 2 ^ k) hx (2 ^ (h - k))
          rw [← Nat.pow_mul, ← Nat.pow_add, show k + (h - k) = h by omega] at h9
          exact h9
        have h2 := (@qx_frob (TR p D h) (TI p D h) p (2 ^ h) hF (oV p D h (D h)) (hT h (by omega)) x).symm.trans h1
        have h3 : x.2 = ((TI p D h).ofNat 0).ofNat := @Fl.neg0 (TR p D h) (TI p D h) p (2 ^ h) hF x.2 (congrArg Prod.snd h2)
        have hxe : x = (x.1, ((TI p D h).ofNat 0).ofNat) := Prod.ext rfl h3
        have h4 : @pw (TR p D h) (TI p D h) x.1 (p ^ 2 ^ k) = x.1 := by
          have h9 := @qx_pw0 (TR p D h) (TI p D h) (oV p D h (D h)) x.1 (p ^ 2 ^ k)
          rw [hxe] at hx
          exact congrArg Prod.fst (h9.symm.trans hx)
        show (if j < 2 ^ h then tV p D h x.1 j else tV p D h x.2 (j - 2 ^ h)) = 0
        by_cases hj2 : j < 2 ^ h
        · rw [if_pos hj2]
          exact ih.mp h4 j hj
        · rw [if_neg hj2, h3, ← oV_zero]
          by_cases hj3 : j - 2 ^ h < 2 ^ h
          · rw [tV_oV hj3, Nat.zero_mod]
          · exact tV_hi (by omega)
      · intro hx
        have h3 : x.2 = ((TI p D h).ofNat 0).ofNat := by
          rw [← oV_zero]
          refine tV_inj (fun j hj => ?_)
          rw [tV_oV hj, Nat.zero_mod]
          have h9 := hx (2 ^ h + j) (by omega)
          have h9 : (if 2 ^ h + j < 2 ^ h then tV p D h x.1 (2 ^ h + j) else tV p D h x.2 (2 ^ h + j - 2 ^ h)) = 0 := h9
          rw [if_neg (by omega), Nat.add_sub_cancel_left] at h9
          exact h9
        have h4 : @pw (TR p D h) (TI p D h) x.1 (p ^ 2 ^ k) = x.1 := ih.mpr (fun j hj => by
          by_cases hj2 : j < 2 ^ h
          · have h9 := hx j hj
            have h9 : (if j < 2 ^ h then tV p D h x.1 j else tV p D h x.2 (j - 2 ^ h)) = 0 := h9
            rw [if_pos hj2] at h9
            exact h9
          · exact tV_hi (by omega))
        have hxe : x = (x.1, ((TI p D h).ofNat 0).ofNat) := Prod.ext rfl h3
        rw [hxe]
        have h9 := @qx_pw0 (TR p D h) (TI p D h) (oV p D h (D h)) x.1 (p ^ 2 ^ k)
        exact h9.trans (by rw [h4])
