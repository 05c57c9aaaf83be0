/-! the lesser of two roots; Tower.takeLesser; units -/
def fz (v : Nat → Nat) : Nat → Nat → Nat
  | 0, i => i
  | n + 1, i => if v i = 0 then fz v n (i + 1) else i
def hdv (v : Nat → Nat) : Nat := v (fz v 7 0)
noncomputable def lsE (p : Nat) [NeZero p] (D : Nat → Nat → Nat) (h : Nat) (X : TR p D h) : TR p D h := if p / 2 < hdv (tV p D h X) then (TI p D h).neg X else X
theorem fz_congr {v w : Nat → Nat} (h : ∀ j, v j = 0 ↔ w j = 0) : ∀ n i, fz v n i = fz w n i
  | 0, _ => rfl
  | n + 1, i => by
    show (if v i = 0 then fz v n (i + 1) else i) = if w i = 0 then fz w n (i + 1) else i
    by_cases e : v i = 0
    · rw [if_pos e, if_pos ((h i).mp e), fz_congr h n]
    · rw [if_neg e, if_neg (fun q => e ((h i).mpr q))]
theorem fz_le (v : Nat → Nat) : ∀ n i, fz v n i ≤ i + n
  | 0, i => Nat.le_refl _
  | n + 1, i => by
    show (if v i = 0 then fz v n (i + 1) else i) ≤ _
    split
    · have := fz_le v n (i + 1); omega
    · omega
theorem fz_zero {v : Nat → Nat} : ∀ n i, v (fz v n i) = 0 → ∀ j, i ≤ j → j ≤ i + n → v j = 0
  | 0, i, h, j, h1, h2 => by
    obtain rfl : j = i := by omega
    exact h
  | n + 1, i, h, j, h1, h2 => by
    have h : v (if v i = 0 then fz v n (i + 1) else i) = 0 := h
    by_cases e : v i = 0
    · rw [if_pos e] at h
      by_cases e2 : j = i
      · rw [e2]; exact e
      · exact fz_zero n (i + 1) h j (by omega) (by omega)
    · rw [if_neg e] at h
      exact absurd h e
section Ls
theorem tV_neg0 {p : Nat} [NeZero p] {D : Nat → Nat → Nat} {k : Nat} (X : TR p D k) (j : Nat) : tV p D k ((TI p D k).neg X) j = 0 ↔ tV p D k X j = 0 := by
  rw [tV_neg]
  have h1 := tV_lt (p := p) (D := D) (x := X) (j := j)
  constructor
  · intro q
    apply Classical.byContradiction
    intro q2
    rw [Nat.mod_eq_of_lt (by omega)] at q
    omega
  · intro q
    rw [q, Nat.sub_zero, Nat.mod_self]
theorem lsE_neg {p : Nat} [NeZero p] {D : Nat → Nat → Nat} {k : Nat} (hodd : p % 2 = 1) (hk : k ≤ 3) (X : TR p D k) : lsE p D k ((TI p D k).neg X) = lsE p D k X := by
  have hw := w8 hk
  have e1 : fz (tV p D k ((TI p D k).neg X)) 7 0 = fz (tV p D k X) 7 0 := fz_congr (tV_neg0 X) 7 0
  have e2 : hdv (tV p D k ((TI p D k).neg X)) = (p - hdv (tV p D k X)) % p := by
    unfold hdv
    rw [e1, tV_neg]
  have hl : hdv (tV p D k X) < p := tV_lt
  have enn : (TI p D k).neg ((TI p D k).neg X) = X := by
    letI I9 := TI p D k
    show - -X = X
    grind
  unfold lsE
  rw [e2]
  by_cases h0 : hdv (tV p D k X) = 0
  · have hz : X = ((TI p D k).ofNat 0).ofNat := tV_inj (fun j hj => by
      rw [tV_zero]
      exact fz_zero 7 0 h0 j (by omega) (by omega))
    have hn : (TI p D k).neg X = X := by
      rw [hz]
      letI I9 := TI p D k
      show -(0 : TR p D k) = 0
      grind
    rw [hn]
    split <;> split <;> first | rfl | exact hn | exact hn.symm
  · rw [Nat.mod_eq_of_lt (by omega)]
    by_cases hc : p / 2 < hdv (tV p D k X)
    · rw [if_pos hc, if_neg (by omega)]
    · rw [if_neg hc, if_pos (by omega), enn]
noncomputable def sqr {R : Type} [Lean.Grind.CommRing R] (x : R) : R := @dite _ (∃ y : R, y * y = x) (Classical.propDecidable _) (fun h => Classical.choose h) (fun _ => 0)
theorem sqr_sq {R : Type} [I : Lean.Grind.CommRing R] {x : R} (h : Sq x) : sqr x * sqr x = x := by
  unfold sqr
  rw [dif_pos (show ∃ y : R, y * y = x from h)]
  exact Classical.choose_spec h
/-- THE ROOT -/
noncomputable def rtE (p : Nat) [NeZero p] (D : Nat → Nat → Nat) (h : Nat) (X : TR p D h) : TR p D h := lsE p D h (@sqr (TR p D h) (TI p D h) X)
theorem rtE_of {p : Nat} [NeZero p] {D : Nat → Nat → Nat} {k : Nat} (hp : Pr p) (hodd : p % 2 = 1) (hk : k ≤ 3) (hD : tOk p D k) {X Y : TR p D k} (hY : (TI p D k).mul Y Y = X) : lsE p D k Y = rtE p D k X := by
  have hF := tw_Fl hp hodd k hD
  have hs : @Sq (TR p D k) (TI p D k) X := ⟨Y, hY⟩
  have h1 := @sqr_sq (TR p D k) (TI p D k) X hs
  unfold rtE
  rcases @Fl.roots (TR p D k) (TI p D k) p (2 ^ k) hF _ _ (hY.trans h1.symm) with q | q
  · rw [q]
  · rw [q]
    exact lsE_neg hodd hk _
theorem lsE_sq {p : Nat} [NeZero p] {D : Nat → Nat → Nat} {k : Nat} (X : TR p D k) : (TI p D k).mul (lsE p D k X) (lsE p D k X) = (TI p D k).mul X X := by
  unfold lsE
  split
  · letI I9 := TI p D k
    show -X * -X = X * X
    grind
  · rfl
theorem rtE_sq {p : Nat} [NeZero p] {D : Nat → Nat → Nat} {k : Nat} {X : TR p D k} (hs : @Sq (TR p D k) (TI p D k) X) : (TI p D k).mul (rtE p D k X) (rtE p D k X) = X := by
  unfold rtE
  rw [lsE_sq]
  exact @sqr_sq (TR p D k) (TI p D k) X hs
variable {K : Ka} {d T x y out p h : Nat} {M : Me} {I : Nat → Nat → Int32} {J : Nat → Nat → Int64} {D : Nat → Nat → Nat}
set_option maxHeartbeats 2000000 in
theorem e_takeLesser [NeZero p] {k : Nat} {X : TR p D k} (hT : TwM M T) (hI : TwI I T p h D) (hx : rc M x) (hX : Re I p D k x X) : Ok K (d + 2) 65 [.ref T, .ref x] (St M I J) (fun r M1 => r = none ∧ ∃ I1 J1, M1 = St M I1 J1 ∧ Re I1 p D k x (lsE p D k X) ∧ ∀ a, a ≠ x → I1 a = I a) := by
  have hTc := hT.1
  have hpb := hI.2.2.2.1
  refine Ok.go (e := me_65) rfl rfl (Nat.le_of_ble_eq_true rfl) hTc ?_
  generalize hpost : (fun (r : Option Value) (M1 : Me) => rok me_65.2.2.2.1 r = true ∧ r = none ∧ ∃ I1 J1, M1 = St M I1 J1 ∧ Re I1 p D k x (lsE p D k X) ∧ ∀ a, a ≠ x → I1 a = I a) = post
  have hv : ∀ j, j < 8 → (I x j = 0 ↔ tV p D k X j = 0) := fun j hj => by
    have h1 := tV_lt (p := p) (D := D) (x := X) (j := j)
    rw [hX j hj]
    exact nI_eq (b := 0) (by omega) (by omega)
  have e2 : I T 0 / Int32.ofInt 2 = nI (p / 2) := by rw [hI.1]; exact pk_div (d := 2) (by omega) (by decide) (by decide)
  -- behind the loop
  have aft : ∀ i, i ≤ 7 → fz (tV p D k X) 7 0 = i → Rf K (d + 1) mc_65 11 (lk [(2, .int (nI i)), (0, .ref T), (1, .ref x)]) [] (St M I J) post := by
    intro i hi he
    have hcl : (nI i).toNatClampNeg = i := nI_clamp (by omega)
    have hxi : I x (nI i).toNatClampNeg = nI (hdv (tV p D k X)) := by
      rw [hcl, hX i (by omega)]
      unfold hdv
      rw [he]
    have h1 : hdv (tV p D k X) < p := tV_lt
    refine Rf.go 100 [] ?_
    refine Or.inr (And.intro ⟨hx.1, rc_in hx (by omega)⟩ ?_)
    refine And.intro hTc ?_
    refine And.intro (by decide) ?_
    refine And.intro (fun hb => ?_) (fun hb => ?_)
    · have hb : I x (nI i).toNatClampNeg ≤ I T 0 / Int32.ofInt 2 := of_decide_eq_true hb
      rw [hxi, e2, nI_leI (by omega) (by omega)] at hb
      rw [← hpost]
      refine ⟨rfl, rfl, I, J, rfl, ?_, fun a _ => rfl⟩
      unfold lsE
      rw [if_neg (by omega)]
      exact hX
    · have hb : ¬ I x (nI i).toNatClampNeg ≤ I T 0 / Int32.ofInt 2 := fun q => hb (decide_eq_true q)
      rw [hxi, e2, nI_leI (by omega) (by omega)] at hb
      refine Wr.go (e_neg (d := d) (k := k) hT hI hx hx hX) (Nat.le_refl _) (fun J1 => ?_)
      rw [← hpost]
      refine ⟨rfl, rfl, _, J1, rfl, ?_, fun a h1 => rwE_ne h1⟩
      unfold lsE
      rw [if_pos (by omega)]
      exact Re_rwE
  have key : ∀ n i, n + i = 7 → fz (tV p D k X) 7 0 = fz (tV p D k X) n i → Rf K (d + 1) mc_65 2 (lk [(2, .int (nI i)), (0, .ref T), (1, .ref x)]) [] (St M I J) post := by
    intro n
    induction n with
    | zero =>
      intro i hi he
      obtain rfl : i = 7 := by omega
      refine Rf.go 100 [11] ?_
      refine And.intro (fun _ => ?_) (fun hb => absurd (by decide) hb)
      exact Rf.weak [(2, .int (nI 7)), (0, .ref T), (1, .ref x)] ⟨rfl, rfl, rfl, trivial⟩ (aft 7 (by omega) he)
    | succ n ih =>
      intro i hi he
      have hcl : (nI i).toNatClampNeg = i := nI_clamp (by omega)
      have he : fz (tV p D k X) 7 0 = if tV p D k X i = 0 then fz (tV p D k X) n (i + 1) else i := he
      refine Rf.go 100 [2, 11] ?_
      refine And.intro (fun hb => absurd ((geN (n := 7) (by omega) (by omega)).mp hb) (by omega)) (fun _ => ?_)
      refine Or.inr (And.intro ⟨hx.1, rc_in hx (by omega)⟩ ?_)
      refine And.intro (fun hb => ?_) (fun hb => ?_)
      · have hb : ¬ I x (nI i).toNatClampNeg = 0 := of_decide_eq_true hb
        rw [hcl, hv i (by omega)] at hb
        rw [if_neg hb] at he
        exact Rf.weak [(2, .int (nI i)), (0, .ref T), (1, .ref x)] ⟨rfl, rfl, rfl, trivial⟩ (aft i (by omega) he)
      · have hb : I x (nI i).toNatClampNeg = 0 := Classical.not_not.mp (fun q => hb (decide_eq_true q))
        rw [hcl, hv i (by omega)] at hb
        rw [if_pos hb] at he
        exact Rf.weak [(2, .int (nI (i + 1))), (0, .ref T), (1, .ref x)] ⟨inc1 i, rfl, rfl, trivial⟩ (ih (i + 1) (by omega) he)
  refine Rf.go 100 [2] ?_
  exact Rf.weak [(2, .int (nI 0)), (0, .ref T), (1, .ref x)] ⟨rfl, rfl, rfl, trivial⟩ (key 7 0 rfl rfl)
theorem e_unit {k u : Nat} [NeZero p] (hT : TwM M T) (hp : 2 ≤ p) (hk : k ≤ 3) (hu : u < 2 ^ k) (ho : rc M out) : Wr K (d + 1) 47 [.ref T, .int (nI u), .ref out] M I J (rwE I p D k out (oV p D k (un u))) := by
  have hw := w8 hk
  refine (t_unit hT.1 ho).up (Nat.le_refl _) ?_
  rintro r M1 ⟨rfl, rfl⟩
  refine ⟨rfl, J, ?_⟩
  unfold rwE
  rw [rw8_congr (fun j hj => ?_)]
  by_cases hj2 : j < 2 ^ k
  · rw [tV_oV hj2]
    unfold un
    by_cases e : j = u
    · rw [if_pos (by rw [e]), if_pos e, Nat.mod_eq_of_lt hp]
      rfl
    · rw [if_neg (fun q => e ((nI_eq (by omega) (by omega)).mp q)), if_neg e, Nat.zero_mod]
      rfl
  · rw [tV_hi (by omega), if_neg (fun q => by
      have := (nI_eq (a := j) (b := u) (by omega) (by omega)).mp q
      omega)]
    rfl
end Ls
