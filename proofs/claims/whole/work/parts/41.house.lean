/-! The cells of a house; what its methods use of the tower -/
def HsM (M : Me) (o : Nat) : Prop := isC M o 1 = true ∧ mR M o 0 = some (o + 1) ∧ TwM M (o + 1) ∧ (mR M o 1 = some (o + 25) ∧ isC M (o + 25) 13 = true ∧ (mH M (o + 25)).2 = 183 ∧ ∀ i, i < 183 → mR M (o + 25) i = some (o + 26 + i)) ∧ (mR M o 2 = some (o + 209) ∧ isC M (o + 209) 10 = true ∧ (mH M (o + 209)).2 = 60) ∧ (mR M o 3 = some (o + 210) ∧ mR M o 4 = some (o + 211) ∧ mR M o 5 = some (o + 212) ∧ mR M o 6 = some (o + 213) ∧ mR M o 7 = some (o + 214) ∧ mR M o 8 = some (o + 215) ∧ mR M o 9 = some (o + 216) ∧ mR M o 10 = some (o + 217) ∧ mR M o 11 = some (o + 218)) ∧ ∀ a, (o + 26 ≤ a ∧ a < o + 209) ∨ (o + 210 ≤ a ∧ a < o + 219) → rc M a
section Hs
variable {K : Ka} {d o p h t i x y out : Nat} {M : Me} {I : Nat → Nat → Int32} {J : Nat → Nat → Int64} {D : Nat → Nat → Nat}
theorem HsM.c (hM : HsM M o) : isC M o 1 = true := hM.1
theorem HsM.r0 (hM : HsM M o) : mR M o 0 = some (o + 1) := hM.2.1
theorem HsM.tw (hM : HsM M o) : TwM M (o + 1) := hM.2.2.1
theorem HsM.tc (hM : HsM M o) : isC M (o + 1) 3 = true := hM.2.2.1.1
theorem HsM.r2 (hM : HsM M o) : mR M o 2 = some (o + 209) := hM.2.2.2.2.1.1
theorem HsM.r3 (hM : HsM M o) : mR M o 3 = some (o + 210) := hM.2.2.2.2.2.1.1
theorem HsM.r4 (hM : HsM M o) : mR M o 4 = some (o + 211) := hM.2.2.2.2.2.1.2.1
theorem HsM.r5 (hM : HsM M o) : mR M o 5 = some (o + 212) := hM.2.2.2.2.2.1.2.2.1
theorem HsM.r6 (hM : HsM M o) : mR M o 6 = some (o + 213) := hM.2.2.2.2.2.1.2.2.2.1
theorem HsM.r7 (hM : HsM M o) : mR M o 7 = some (o + 214) := hM.2.2.2.2.2.1.2.2.2.2.1
theorem HsM.r8 (hM : HsM M o) : mR M o 8 = some (o + 215) := hM.2.2.2.2.2.1.2.2.2.2.2.1
theorem HsM.r9 (hM : HsM M o) : mR M o 9 = some (o + 216) := hM.2.2.2.2.2.1.2.2.2.2.2.2.1
theorem HsM.r10 (hM : HsM M o) : mR M o 10 = some (o + 217) := hM.2.2.2.2.2.1.2.2.2.2.2.2.2.1
theorem HsM.r11 (hM : HsM M o) : mR M o 11 = some (o + 218) := hM.2.2.2.2.2.1.2.2.2.2.2.2.2.2
theorem HsM.rc (hM : HsM M o) {a : Nat} (h : (o + 26 ≤ a ∧ a < o + 209) ∨ (o + 210 ≤ a ∧ a < o + 219)) : rc M a := hM.2.2.2.2.2.2 a h
theorem h_row {z w : Int32} (hM : HsM M o) (ht : t ≤ 60) (hi : i < 3) (hz : z = nI t) (hw : w = nI i) : Ok K (d + 1) 7 [.ref o, .int z, .int w] (St M I J) (fun r M1 => r = some (.ref (o + 26 + 3 * t + i)) ∧ M1 = St M I J) := by
  obtain ⟨r1, c1, l1, ro⟩ := hM.2.2.2.1
  subst hz hw
  have e : Int32.ofInt 3 * nI t + nI i = nI (3 * t + i) := by rw [show Int32.ofInt 3 = nI 3 from rfl, pk_mul, nI_add]
  refine Ok.go (e := me_7) rfl rfl (Nat.le_of_ble_eq_true rfl) hM.c ?_
  refine Rf.go 60 [] ?_
  refine And.intro (fun hb => absurd (of_decide_eq_true hb) (nI_pos (by omega))) (fun _ => ?_)
  refine And.intro (fun hb => absurd (of_decide_eq_true hb) (nI_nlt (a := 60) (b := t) ht (by decide))) (fun _ => ?_)
  refine And.intro (fun hb => absurd (of_decide_eq_true hb) (nI_pos (by omega))) (fun _ => ?_)
  refine And.intro (fun hb => absurd (of_decide_eq_true hb) (nI_ge (b := 3) hi (by decide))) (fun _ => ?_)
  refine And.intro hM.c ⟨o + 25, r1, ?_⟩
  refine And.intro ⟨c1, ?_⟩ ⟨o + 26 + (3 * t + i), ?_, ?_⟩
  · show inb (Int32.ofInt 3 * nI t + nI i) (mH M (o + 25)).2 = true
    rw [e, l1]
    exact inb_n (by omega) (by omega)
  · show mR M (o + 25) (Int32.ofInt 3 * nI t + nI i).toNatClampNeg = _
    rw [e, nI_clamp (by omega)]
    exact ro _ (by omega)
  · exact ⟨rfl, congrArg (fun z => some (Value.ref z)) (Nat.add_assoc (o + 26) (3 * t) i).symm, rfl⟩
theorem h_growthBy {z : Int32} (hM : HsM M o) (ht : t < 60) (hz : z = nI t) : Ok K (d + 1) 8 [.ref o, .int z] (St M I J) (fun r M1 => r = some (.int (I (o + 209) t)) ∧ M1 = St M I J) := by
  obtain ⟨r2, c2, l2⟩ := hM.2.2.2.2.1
  subst hz
  refine Ok.go (e := me_8) rfl rfl (Nat.le_of_ble_eq_true rfl) hM.c ?_
  refine Rf.go 60 [] ?_
  refine And.intro (fun hb => absurd (of_decide_eq_true hb) (nI_pos (by omega))) (fun _ => ?_)
  refine And.intro (fun hb => absurd (of_decide_eq_true hb) (nI_ge (b := 60) ht (by decide))) (fun _ => ?_)
  refine And.intro hM.c ⟨o + 209, r2, ?_⟩
  refine Or.inr (And.intro ⟨c2, by rw [show (mH (St M I J) (o + 209)).2 = 60 from l2]; exact inb_n ht (by omega)⟩ ?_)
  exact ⟨rfl, by show some (Value.int (I (o + 209) (nI t).toNatClampNeg)) = _; rw [nI_clamp (by omega)], rfl⟩
/-- the inverse, 0 for 0 -/
noncomputable def iv (p : Nat) [NeZero p] (D : Nat → Nat → Nat) (h : Nat) (X : TR p D h) : TR p D h := @dite _ (∃ Z, @IsInv (TR p D h) (TI p D h) X Z) (Classical.propDecidable _) (fun q => Classical.choose q) (fun _ => X)
theorem iv_is [NeZero p] {X Z : TR p D h} (hZ : @IsInv (TR p D h) (TI p D h) X Z) : iv p D h X = Z := by
  have q : ∃ Z, @IsInv (TR p D h) (TI p D h) X Z := ⟨Z, hZ⟩
  unfold iv
  rw [dif_pos q]
  exact @IsInv.uniq (TR p D h) (TI p D h) _ _ _ (Classical.choose_spec q) hZ
/-- of two, the second, or, where it is 0, the first -/
noncomputable def ldE (p : Nat) [NeZero p] (D : Nat → Nat → Nat) (h : Nat) (A B : TR p D h) : TR p D h := @ite _ (B = ((TI p D h).ofNat 0).ofNat) (Classical.propDecidable _) A B
theorem ldE_t [NeZero p] {A B : TR p D h} (e : B = ((TI p D h).ofNat 0).ofNat) : ldE p D h A B = A := if_pos e
theorem ldE_f [NeZero p] {A B : TR p D h} (e : ¬ B = ((TI p D h).ofNat 0).ofNat) : ldE p D h A B = B := if_neg e
/-- one of two, as B is 0 or not -/
noncomputable def sel (p : Nat) [NeZero p] (D : Nat → Nat → Nat) (h : Nat) (B U V : TR p D h) : TR p D h := @ite _ (B = ((TI p D h).ofNat 0).ofNat) (Classical.propDecidable _) U V
theorem sel_t [NeZero p] {B U V : TR p D h} (e : B = ((TI p D h).ofNat 0).ofNat) : sel p D h B U V = U := if_pos e
theorem sel_f [NeZero p] {B U V : TR p D h} (e : ¬ B = ((TI p D h).ofNat 0).ofNat) : sel p D h B U V = V := if_neg e
theorem Wr.go2 {K : Ka} {d d' j : Nat} {as : List Value} {M : Me} {I : Nat → Nat → Int32} {J : Nat → Nat → Int64} {p : Nat} [NeZero p] {D : Nat → Nat → Nat} {k out : Nat} {Z : TR p D k} {post : Option Value → Me → Prop} (h : Wr K d j as M I J (rwE I p D k out Z)) (hd : d ≤ d') (hp : ∀ I1 J1, Re I1 p D k out Z → (∀ a, a ≠ out → I1 a = I a) → post none (St M I1 J1)) : Ok K d' j as (St M I J) post := Wr.go h hd (fun J' => hp _ J' Re_rwE (fun _ ha => rwE_ne ha))
theorem e_inv' [NeZero p] {T : Nat} {X : TR p D h} {d' : Nat} {post : Option Value → Me → Prop} (hK : Ksp K) (hT : TwM M T) (hA : TwA I T p h D) (hx : rc M x) (ho : rc M out) (hX : Re I p D h x X) (hd : d + 2 ≤ d') (hp : ∀ I1 J1, Re I1 p D h out (iv p D h X) → (∀ a, a ≠ out → (a < T + 7 ∨ T + 10 ≤ a) → I1 a = I a) → post none (St M I1 J1)) : Ok K d' 61 [.ref T, .ref x, .ref out] (St M I J) post := by
  refine (e_invert (d := d) (J := J) hA.2.2.2.2.1 hA.2.2.2.2.2 hK hT hA.1 hA.2.2.2.1 hx ho hX).up hd ?_
  rintro r M1 ⟨rfl, I1, J1, Z, rfl, hZ, hi, f⟩
  rw [← iv_is hi] at hZ
  exact hp I1 J1 hZ (fun a h1 h2 => f a h1 (by omega) (by omega) (by omega))
theorem e_div' [NeZero p] {T : Nat} {X Y : TR p D h} {d' : Nat} {post : Option Value → Me → Prop} (hK : Ksp K) (hT : TwM M T) (hA : TwA I T p h D) (hx : rc M x) (hy : rc M y) (ho : rc M out) (hX : Re I p D h x X) (hY : Re I p D h y Y) (fx : x < T + 7 ∨ T + 10 ≤ x) (hd : d + 3 ≤ d') (hp : ∀ I1 J1, Re I1 p D h out ((TI p D h).mul X (iv p D h Y)) → (∀ a, a ≠ out → (a < T + 7 ∨ T + 10 ≤ a) → I1 a = I a) → post none (St M I1 J1)) : Ok K d' 62 [.ref T, .ref x, .ref y, .ref out] (St M I J) post := by
  refine (e_divide (d := d) (J := J) hA.2.2.2.2.1 hA.2.2.2.2.2 hK hT hA.1 hA.2.2.2.1 hx hy ho hX hY (by omega) (by omega) (by omega)).up hd ?_
  rintro r M1 ⟨rfl, I1, J1, Z, rfl, hZ, hi, f⟩
  rw [← iv_is hi] at hZ
  exact hp I1 J1 hZ (fun a h1 h2 => f a h1 (by omega) (by omega) (by omega))
theorem e_sc2 [NeZero p] {T : Nat} {X : TR p D h} (hT : TwM M T) (hI : TwI I T p h D) (hx : rc M x) (ho : rc M out) (hX : Re I p D h x X) : Wr K (d + 1) 57 [.ref T, .ref x, .int (Int32.ofInt 2), .ref out] M I J (rwE I p D h out ((TI p D h).add X X)) := by
  have q := e_scale (K := K) (d := d) (J := J) (c := 2) hT hI hx ho hX (by have := hI.2.2.2.1.1; omega)
  rw [@nm_two (TR p D h) (TI p D h)] at q
  exact q
theorem e_sc4 [NeZero p] {T : Nat} {X : TR p D h} (hT : TwM M T) (hA : TwA I T p h D) (hx : rc M x) (ho : rc M out) (hX : Re I p D h x X) : Wr K (d + 1) 57 [.ref T, .ref x, .int (Int32.ofInt 4 - Int32.ofInt 4 / I T 0 * I T 0), .ref out] M I J (rwE I p D h out ((TI p D h).add ((TI p D h).add X X) ((TI p D h).add X X))) := by
  have hpb := hA.1.2.2.2.1
  have e : Int32.ofInt 4 - Int32.ofInt 4 / I T 0 * I T 0 = nI (4 % p) := by rw [hA.1.1]; exact pk_rem (a := 4) (by decide) (by omega) (by omega)
  rw [e]
  have q := e_scale (K := K) (d := d) (J := J) (c := 4 % p) hT hA.1 hx ho hX (Nat.mod_lt _ (by omega))
  have e2 : @nm (TR p D h) (TI p D h) (4 % p) X = (TI p D h).add ((TI p D h).add X X) ((TI p D h).add X X) := by
    letI I9 := TI p D h
    have hF := @Fl.ch (TR p D h) (TI p D h) p (2 ^ h) (tw_Fl hA.2.2.2.2.1 hA.2.2.2.2.2 h hA.2.2.2.1) X
    have e4 : nm 4 X = (X + X) + (X + X) := by
      rw [show 4 = 2 + 2 from rfl, nm_add, nm_two]
    show nm (4 % p) X = (X + X) + (X + X)
    rw [← e4]
    by_cases h3 : p = 3
    · subst h3
      have e5 : nm 4 X = nm 3 X + nm 1 X := nm_add X 3 1
      rw [e5, hF]
      have : (0 : TR 3 D h) + nm 1 X = nm 1 X := by grind
      rw [this]
    · rw [Nat.mod_eq_of_lt (by have := hA.2.2.2.2.2; omega)]
  rw [e2] at q
  exact q
theorem e_set0 [NeZero p] {T : Nat} (hT : TwM M T) (hI : TwI I T p h D) (hTo : T ≠ out) (ho : rc M out) : Wr K (d + 2) 46 [.ref T, .int (Int32.ofInt 0), .ref out] M I J (rwE I p D h out ((TI p D h).ofNat 0).ofNat) := by
  have q := e_setRes (K := K) (d := d) (J := J) (k := h) (z := Int32.ofInt 0) hT hI hTo ho
  rw [show rs (Int32.ofInt 0) p = 0 from rs_nI (a := 0) (by have := hI.2.2.2.1.1; omega) (by have := hI.2.2.2.1.2; omega)] at q
  exact q
theorem e_set1 [NeZero p] {T : Nat} (hT : TwM M T) (hI : TwI I T p h D) (hTo : T ≠ out) (ho : rc M out) : Wr K (d + 2) 46 [.ref T, .int (Int32.ofInt 1), .ref out] M I J (rwE I p D h out ((TI p D h).ofNat 1).ofNat) := by
  have q := e_setRes (K := K) (d := d) (J := J) (k := h) (z := Int32.ofInt 1) hT hI hTo ho
  rw [show rs (Int32.ofInt 1) p = 1 from rs_nI (a := 1) (by have := hI.2.2.2.1.1; omega) (by have := hI.2.2.2.1.2; omega)] at q
  have e : @nm (TR p D h) (TI p D h) 1 ((TI p D h).ofNat 1).ofNat = ((TI p D h).ofNat 1).ofNat := by
    letI I9 := TI p D h
    show nm 1 (1 : TR p D h) = 1
    show nm 0 (1 : TR p D h) + 1 = 1
    show (0 : TR p D h) + 1 = 1
    grind
  rw [e] at q
  exact q
/-- what a root that is asked for leaves: bases, height, row -/
noncomputable def gB (p : Nat) [NeZero p] (D : Nat → Nat → Nat) (h : Nat) (X : TR p D h) : Nat → Nat → Nat := @ite _ (@Sq (TR p D h) (TI p D h) X) (Classical.propDecidable _) D (gD D h (tV p D h X))
noncomputable def gH (p : Nat) [NeZero p] (D : Nat → Nat → Nat) (h : Nat) (X : TR p D h) : Nat := @ite _ (@Sq (TR p D h) (TI p D h) X) (Classical.propDecidable _) h (h + 1)
noncomputable def rV (p : Nat) [NeZero p] (D : Nat → Nat → Nat) (h : Nat) (X : TR p D h) : Nat → Nat := @ite _ (@Sq (TR p D h) (TI p D h) X) (Classical.propDecidable _) (tV p D h (rtE p D h X)) (un (2 ^ h))
def RtC (p : Nat) [NeZero p] (D : Nat → Nat → Nat) (h : Nat) (X : TR p D h) : Prop := @Sq (TR p D h) (TI p D h) X ∨ h < 3
theorem gH_le [NeZero p] {X : TR p D h} : h ≤ gH p D h X ∧ gH p D h X ≤ h + 1 := by
  unfold gH
  split <;> omega
theorem e_root' [NeZero p] {T : Nat} {X : TR p D h} {d' : Nat} {post : Option Value → Me → Prop} (hK : Ksp K) (hT : TwM M T) (hA : TwA I T p h D) (hx : rc M x) (ho : rc M out) (hX : Re I p D h x X) (fx : x < T ∨ T + 24 ≤ x) (fo : out < T ∨ T + 24 ≤ out) (hd : d + 8 ≤ d') (hp : RtC p D h X → ∀ I1 J1, TwA I1 T p (gH p D h X) (gB p D h X) → Re I1 p (gB p D h X) (gH p D h X) out (oV p (gB p D h X) (gH p D h X) (rV p D h X)) → (∀ a, a ≠ out → (a < T ∨ T + 24 ≤ a) → I1 a = I a) → post (some (.int (Int32.ofInt 0))) (St M I1 J1)) (hn : ¬ RtC p D h X → ∀ I1 J1, TwA I1 T p h D → (∀ a, a ≠ out → (a < T ∨ T + 24 ≤ a) → I1 a = I a) → post (some (.int (Int32.ofInt (-5)))) (St M I1 J1)) : Ok K d' 64 [.ref T, .ref x, .ref out] (St M I J) post := by
  refine (e_rootOrGrow (d := d) (J := J) hK hT hA hx ho hX fx fo).up hd ?_
  rintro r M1 ⟨I1, J1, rfl, f, (⟨hs, rfl, hA1, hR⟩ | ⟨hs, h3, rfl, hA1⟩ | ⟨hs, h3, rfl, hA1, hR⟩)⟩
  · have e1 : gB p D h X = D := if_pos hs
    have e2 : gH p D h X = h := if_pos hs
    have e3 : rV p D h X = tV p D h (rtE p D h X) := if_pos hs
    refine hp (Or.inl hs) I1 J1 ?_ ?_ f
    · rw [e1, e2]; exact hA1
    · rw [e1, e2, e3, oV_tV]; exact hR
  · exact hn (fun q => q.elim hs (by omega)) I1 J1 hA1 f
  · have e1 : gB p D h X = gD D h (tV p D h X) := if_neg hs
    have e2 : gH p D h X = h + 1 := if_neg hs
    have e3 : rV p D h X = un (2 ^ h) := if_neg hs
    refine hp (Or.inr h3) I1 J1 ?_ ?_ f
    · rw [e1, e2]; exact hA1
    · rw [e1, e2, e3]; exact hR
end Hs
