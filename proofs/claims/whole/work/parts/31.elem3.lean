/-! rows replaced whole; levels below the height; roots of residues -/
def rwA (I : Nat → Nat → Int32) (a : Nat) (f : Nat → Int32) : Nat → Nat → Int32 := fun b => if b = a then f else I b
theorem rwA_ne {I : Nat → Nat → Int32} {a b : Nat} {f : Nat → Int32} (h : b ≠ a) : rwA I a f b = I b := if_neg h
theorem rwA_eq {I : Nat → Nat → Int32} {a : Nat} {f : Nat → Int32} : rwA I a f a = f := if_pos rfl
section E3
theorem Em_one {p : Nat} [NeZero p] {D : Nat → Nat → Nat} (hp : 2 ≤ p) {k h : Nat} (hk : k ≤ h) : Em p D k h ((TI p D k).ofNat 1).ofNat = ((TI p D h).ofNat 1).ofNat := by
  refine tV_inj (fun j _ => ?_)
  rw [Em_tV hk, tV_one hp, tV_one hp]
theorem Em_nul {p : Nat} [NeZero p] {D : Nat → Nat → Nat} {k h : Nat} (hk : k ≤ h) : Em p D k h ((TI p D k).ofNat 0).ofNat = ((TI p D h).ofNat 0).ofNat := by
  refine tV_inj (fun j _ => ?_)
  rw [Em_tV hk, tV_zero, tV_zero]
theorem Em_inj {p : Nat} [NeZero p] {D : Nat → Nat → Nat} {k h : Nat} (hk : k ≤ h) {x y : TR p D k} (e : Em p D k h x = Em p D k h y) : x = y := by
  refine tV_inj (fun j _ => ?_)
  have := congrArg (fun z => tV p D h z j) e
  have : tV p D h (Em p D k h x) j = tV p D h (Em p D k h y) j := this
  rw [Em_tV hk, Em_tV hk] at this
  exact this
theorem IsInv.uniq {R : Type} [I : Lean.Grind.CommRing R] {X Z W : R} (h1 : IsInv X Z) (h2 : IsInv X W) : Z = W := by
  by_cases hX : X = 0
  · rw [h1.1 hX, h2.1 hX]
  · have a := h1.2 hX
    have b := h2.2 hX
    have e : Z = X * W * Z := by rw [b]; grind
    have e2 : X * W * Z = X * Z * W := by grind
    rw [e, e2, a]
    grind
theorem Fl.isInv {R : Type} [I : Lean.Grind.CommRing R] {p e : Nat} (h : Fl R p e) (X : R) : ∃ Z, IsInv X Z := by
  by_cases hX : X = 0
  · exact ⟨0, fun _ => rfl, fun q => absurd hX q⟩
  · obtain ⟨y, hy⟩ := h.inv hX
    exact ⟨y, fun q => absurd q hX, fun _ => hy⟩
theorem tOk.le {p : Nat} [NeZero p] {D : Nat → Nat → Nat} {k h : Nat} (hD : tOk p D h) (hk : k ≤ h) : tOk p D k := fun i hi => hD i (by omega)
variable {K : Ka} {d T x y out p h : Nat} {M : Me} {I : Nat → Nat → Int32} {J : Nat → Nat → Int64} {D : Nat → Nat → Nat}
theorem e_addk {k : Nat} [NeZero p] {X Y : TR p D k} (hT : TwM M T) (hI : TwI I T p h D) (hx : rc M x) (hy : rc M y) (ho : rc M out) (hX : Re I p D k x X) (hY : Re I p D k y Y) : Wr K (d + 1) 54 [.ref T, .ref x, .ref y, .ref out] M I J (rwE I p D k out ((TI p D k).add X Y)) := by
  refine (t_add hT.1 hx hy ho).up (Nat.le_refl _) ?_
  rintro r M1 ⟨rfl, rfl⟩
  refine ⟨rfl, J, ?_⟩
  unfold rwE
  rw [rw8_congr (fun j hj => ?_)]
  have h1 := tV_lt (p := p) (D := D) (x := X) (j := j)
  have h2 := tV_lt (p := p) (D := D) (x := Y) (j := j)
  have hpb := hI.2.2.2.1.2
  rw [hX j hj, hY j hj, hI.1, nI_add, tV_add]
  by_cases hc : tV p D k X j + tV p D k Y j < p
  · rw [if_pos (nI_lt hc (by omega)), Nat.mod_eq_of_lt hc]
  · rw [if_neg (nI_nlt (by omega) (by omega)), pk_sub (by omega)]
    congr 1
    rw [Nat.mod_eq_sub_mod (by omega), Nat.mod_eq_of_lt (by omega)]
theorem e_invertk [NeZero p] {k : Nat} {X : TR p D k} (hp : Pr p) (hodd : p % 2 = 1) (hK : Ksp K) (hT : TwM M T) (hI : TwI I T p h D) (hD : tOk p D h) (hk : k ≤ h) (hx : rc M x) (ho : rc M out) (hX : Re I p D k x X) : Ok K (d + 2) 61 [.ref T, .ref x, .ref out] (St M I J) (fun r M1 => r = none ∧ ∃ I1 J1 Z, M1 = St M I1 J1 ∧ Re I1 p D k out Z ∧ @IsInv (TR p D k) (TI p D k) X Z ∧ ∀ a, a ≠ out → a ≠ T + 7 → a ≠ T + 8 → a ≠ T + 9 → I1 a = I a) := by
  have hpb := hI.2.2.2.1
  refine (e_invert (d := d) (J := J) (X := Em p D k h X) hp hodd hK hT hI hD hx ho (fun j hj => (hX j hj).trans (congrArg nI (congrFun (Em_tV hk X) j).symm))).up (Nat.le_refl _) ?_
  rintro r M1 ⟨rfl, I1, J1, Z, rfl, hZ, hinv, hfr⟩
  obtain ⟨W, hW⟩ := @Fl.isInv (TR p D k) (TI p D k) p (2 ^ k) (tw_Fl hp hodd k (hD.le hk)) X
  have hE : @IsInv (TR p D h) (TI p D h) (Em p D k h X) (Em p D k h W) := by
    constructor
    · intro q
      have q : X = ((TI p D k).ofNat 0).ofNat := Em_inj hk (q.trans (Em_nul hk).symm)
      have := hW.1 q
      rw [this]
      exact Em_nul hk
    · intro q
      have := hW.2 (fun q2 => q (by rw [q2]; exact Em_nul hk))
      exact (Em_mul hk X W).symm.trans ((congrArg (Em p D k h) this).trans (Em_one (by omega) hk))
  have e := @IsInv.uniq (TR p D h) (TI p D h) _ _ _ hinv hE
  refine ⟨rfl, I1, J1, W, rfl, fun j hj => (hZ j hj).trans (congrArg nI ?_), hW, hfr⟩
  rw [e]
  exact congrFun (Em_tV hk W) j
theorem e_split {k : Nat} {lo hi9 : Nat} [NeZero p] {X : TR p D (k + 1)} (hT : TwM M T) (hk : k + 1 ≤ 3) (hx : rc M x) (hl : rc M lo) (hh : rc M hi9) (hX : Re I p D (k + 1) x X) (hxl : x ≠ lo) (hxh : x ≠ hi9) (hlh : lo ≠ hi9) : Wr K (d + 1) 69 [.ref T, .ref x, .int (nI (k + 1)), .ref lo, .ref hi9] M I J (rwE (rwE I p D k lo X.1) p D k hi9 X.2) := by
  refine (t_split hT.1 hx hl hh (by omega) hk hxl hxh hlh).up (Nat.le_refl _) ?_
  rintro r M1 ⟨rfl, rfl⟩
  refine ⟨rfl, J, ?_⟩
  unfold rwE
  have hw := hlf (k := k + 1) (by omega) hk
  have e : ∀ j, tV p D (k + 1) X j = if j < 2 ^ k then tV p D k X.1 j else tV p D k X.2 (j - 2 ^ k) := fun j => rfl
  rw [Nat.add_sub_cancel] at hw ⊢
  congr 1
  have e1 : rw8 I lo 8 (fun j => if j < 2 ^ k then I x j else Int32.ofInt 0) = rw8 I lo 8 (fun j => nI (tV p D k X.1 j)) := by
    refine rw8_congr (fun j hj => ?_)
    by_cases hj2 : j < 2 ^ k
    · rw [if_pos hj2, hX j hj, e, if_pos hj2]
    · rw [if_neg hj2, tV_hi (by omega)]
      rfl
  rw [e1]
  refine rw8_congr (fun j hj => ?_)
  by_cases hj2 : j < 2 ^ k
  · rw [if_pos hj2, hX _ (by omega), e, if_neg (by omega), Nat.add_sub_cancel_left]
  · rw [if_neg hj2, tV_hi (by omega)]
    rfl
theorem e_join {k : Nat} {lo hi9 : Nat} [NeZero p] {X Y : TR p D k} (hT : TwM M T) (hk : k + 1 ≤ 3) (hl : rc M lo) (hh : rc M hi9) (ho : rc M out) (hX : Re I p D k lo X) (hY : Re I p D k hi9 Y) (hho : hi9 ≠ out) : Wr K (d + 1) 70 [.ref T, .ref lo, .ref hi9, .int (nI (k + 1)), .ref out] M I J (rwE I p D (k + 1) out ((X, Y) : TR p D k × TR p D k)) := by
  refine (t_join hT.1 hl hh ho (by omega) hk hho).up (Nat.le_refl _) ?_
  rintro r M1 ⟨rfl, rfl⟩
  refine ⟨rfl, J, ?_⟩
  unfold rwE
  have hw := hlf (k := k + 1) (by omega) hk
  have e : ∀ j, tV p D (k + 1) ((X, Y) : TR p D k × TR p D k) j = if j < 2 ^ k then tV p D k X j else tV p D k Y (j - 2 ^ k) := fun j => rfl
  rw [Nat.add_sub_cancel] at hw ⊢
  congr 1
  refine rw8_congr (fun j hj => ?_)
  rw [e]
  by_cases hj2 : j < 2 ^ k
  · rw [if_pos hj2, if_pos hj2, hX j hj]
  · rw [if_neg hj2, if_neg hj2]
    by_cases hj3 : j < 2 * 2 ^ k
    · rw [if_pos hj3, hY _ (by omega)]
    · rw [if_neg hj3, tV_hi (by omega)]
      rfl
end E3
/-! Tower.residueRoot -/
/-- odd part, twos, turner -/
def TwF (I : Nat → Nat → Int32) (T p : Nat) [NeZero p] : Prop := ∃ (t c : Nat) (g : Fin p), I T 10 = nI (2 * c + 1) ∧ I T 11 = nI (t + 1) ∧ I T 12 = nI (g.val ^ (2 * c + 1) % p) ∧ p - 1 = 2 ^ (t + 1) * (2 * c + 1) ∧ pw g ((p - 1) / 2) = -1
theorem TwF.keep {I I1 : Nat → Nat → Int32} {T p : Nat} [NeZero p] (h : TwF I T p) (h1 : I1 T = I T) : TwF I1 T p := by
  unfold TwF at *
  rw [h1]
  exact h
theorem shl14 : ∀ h, h ≤ 14 → Int32.ofInt 1 <<< (nI h &&& 31) = nI (2 ^ h) := by decide
theorem ts_zero {p : Nat} [NeZero p] : ∀ (j : Nat) (rest turn : Fin p), ts j (0 : Fin p) rest turn = 0
  | 0, _, _ => rfl
  | j + 1, rest, turn => by
    show (if pw rest (2 ^ j) = 1 then ts j (0 : Fin p) rest (turn * turn) else ts j ((0 : Fin p) * turn) (rest * (turn * turn)) (turn * turn)) = 0
    have e : (0 : Fin p) * turn = 0 := by grind
    rw [e, ts_zero j, ts_zero j]
    split <;> rfl
theorem fin_mulv {p : Nat} (a b : Fin p) : (a * b).val = a.val * b.val % p := Fin.val_mul a b
set_option maxHeartbeats 2000000 in
theorem t_resRoot {K : Ka} {d T p : Nat} [NeZero p] {a : Fin p} {M : Me} {I : Nat → Nat → Int32} {J : Nat → Nat → Int64} (hpr : Pr p) (hT : isC M T 3 = true) (hp : I T 0 = nI p) (hp1 : 3 ≤ p) (hp2 : p ≤ 32749) (hF : TwF I T p) (ha : a = 0 ∨ pw a ((p - 1) / 2) = 1) : Ok K (d + 2) 71 [.ref T, .int (nI a.val)] (St M I J) (fun r M1 => M1 = St M I J ∧ ∃ y : Fin p, r = some (.int (nI y.val)) ∧ y * y = a) := by
  obtain ⟨t, c, g, f1, f2, f3, f4, f5⟩ := hF
  have ht : t ≤ 13 := by
    apply Classical.byContradiction
    intro q
    have h1 : 2 ^ 15 ≤ 2 ^ (t + 1) := Nat.pow_le_pow_right (by decide) (by omega)
    have h2 : 2 ^ (t + 1) * 1 ≤ 2 ^ (t + 1) * (2 * c + 1) := Nat.mul_le_mul_left _ (by omega)
    omega
  have hc : 2 * c + 1 ≤ p - 1 := by
    rw [f4]
    have h1 : 1 ≤ 2 ^ (t + 1) := Nat.pow_pos (by decide)
    exact Nat.le_trans (by omega) (Nat.mul_le_mul_right _ h1)
  have hp0 : ¬ I T 0 = 0 := by rw [hp]; exact nI_ne0 (by omega) (by omega)
  have res : ts t (pw a ((2 * c + 1 + 1) / 2)) (pw a (2 * c + 1)) (pw g (2 * c + 1)) * ts t (pw a ((2 * c + 1 + 1) / 2)) (pw a (2 * c + 1)) (pw g (2 * c + 1)) = a := by
    rcases ha with rfl | ha
    · rw [pw_zero (by omega), ts_zero]
      grind
    · exact ts_root hpr rfl f4 f5 ha
  refine Ok.go (e := me_71) rfl rfl (Nat.le_of_ble_eq_true rfl) hT ?_
  have e1 : (I T 10 + Int32.ofInt 1) / Int32.ofInt 2 = nI ((2 * c + 1 + 1) / 2) := by
    rw [f1, show Int32.ofInt 1 = nI 1 from rfl, nI_add]
    exact pk_div (d := 2) (by omega) (by decide) (by decide)
  have key : ∀ j, j ≤ t → ∀ root rest turn : Fin p, ts j root rest turn * ts j root rest turn = a → Rf K (d + 1) mc_71 24 (lk [(5, .int (nI j + Int32.ofInt (-1))), (4, .int (nI turn.val)), (3, .int (nI rest.val)), (2, .int (nI root.val)), (0, .ref T)]) [] (St M I J) (fun r M1 => rok me_71.2.2.2.1 r = true ∧ M1 = St M I J ∧ ∃ y : Fin p, r = some (.int (nI y.val)) ∧ y * y = a) := by
    intro j
    induction j with
    | zero =>
      intro _ root rest turn hr
      refine Rf.go 100 [] ?_
      exact And.intro (fun _ => ⟨rfl, rfl, root, rfl, hr⟩) (fun hb => absurd (by decide) hb)
    | succ j ih =>
      intro hj root rest turn hr
      rw [show nI (j + 1) + Int32.ofInt (-1) = nI j from pk_m1 j]
      have l1 := root.isLt
      have l2 := rest.isLt
      have l3 := turn.isLt
      have q1 : nI turn.val * nI turn.val - nI turn.val * nI turn.val / I T 0 * I T 0 = nI (turn * turn).val := by rw [hp, pk_mul, pk_rem (sq_lt l3 l3 hp2) (by omega) (by omega), fin_mulv]
      have q2 : nI root.val * nI turn.val - nI root.val * nI turn.val / I T 0 * I T 0 = nI (root * turn).val := by rw [hp, pk_mul, pk_rem (sq_lt l1 l3 hp2) (by omega) (by omega), fin_mulv]
      have q3 : nI rest.val * nI (turn * turn).val - nI rest.val * nI (turn * turn).val / I T 0 * I T 0 = nI (rest * (turn * turn)).val := by rw [hp, pk_mul, pk_rem (sq_lt l2 (turn * turn).isLt hp2) (by omega) (by omega), fin_mulv rest]
      have hpw := t_power (K := K) (d := d) (M := M) (I := I) (J := J) (T := T) (p := p) (a := rest.val) (n := 2 ^ j) hT hp (by omega) hp2 l2 (Nat.lt_of_le_of_lt (Nat.pow_le_pow_right (n := 2) (by decide) (show j ≤ 14 by omega)) (by decide))
      rw [← shl14 j (by omega)] at hpw
      have hiff : nI (rest.val ^ 2 ^ j % p) = Int32.ofInt 1 ↔ pw rest (2 ^ j) = 1 := by
        have hpv := fin_pw (p := p) (by omega) rest (2 ^ j)
        rw [← hpv]
        constructor
        · intro q
          have q : (pw rest (2 ^ j)).val = 1 := (nI_eq (b := 1) (by have := (pw rest (2 ^ j)).isLt; omega) (by omega)).mp q
          exact Fin.ext (q.trans (fin_one hpr).symm)
        · intro q
          rw [q, fin_one hpr]
          rfl
      have hr : (if pw rest (2 ^ j) = 1 then ts j root rest (turn * turn) else ts j (root * turn) (rest * (turn * turn)) (turn * turn)) * (if pw rest (2 ^ j) = 1 then ts j root rest (turn * turn) else ts j (root * turn) (rest * (turn * turn)) (turn * turn)) = a := hr
      refine Rf.go 100 [24] ?_
      refine And.intro (fun hb => absurd (of_decide_eq_true hb) (nI_pos (by omega))) (fun _ => ?_)
      refine And.intro hT (And.intro hp0 ?_)
      refine hpw.up (Nat.le_refl _) ?_
      rintro r M1 ⟨rfl, rfl⟩
      refine And.intro (fun hb => ?_) (fun hb => ?_)
      · have hb : nI (rest.val ^ 2 ^ j % p) = Int32.ofInt 1 := of_decide_eq_true hb
        rw [if_pos (hiff.mp hb)] at hr
        exact Rf.weak [(5, .int (nI j + Int32.ofInt (-1))), (4, .int (nI (turn * turn).val)), (3, .int (nI rest.val)), (2, .int (nI root.val)), (0, .ref T)] ⟨rfl, congrArg (fun z => some (Value.int z)) q1, rfl, rfl, rfl, trivial⟩ (ih (by omega) _ _ _ hr)
      · have hb : ¬ nI (rest.val ^ 2 ^ j % p) = Int32.ofInt 1 := fun q => hb (decide_eq_true q)
        rw [if_neg (fun q => hb (hiff.mpr q))] at hr
        refine And.intro hT (And.intro hp0 ?_)
        refine And.intro hT (And.intro hp0 ?_)
        exact Rf.weak [(5, .int (nI j + Int32.ofInt (-1))), (4, .int (nI (turn * turn).val)), (3, .int (nI (rest * (turn * turn)).val)), (2, .int (nI (root * turn).val)), (0, .ref T)] ⟨rfl, congrArg (fun z => some (Value.int z)) q1, by rw [← q3, ← q1]; rfl, congrArg (fun z => some (Value.int z)) q2, rfl, trivial⟩ (ih (by omega) _ _ _ hr)
  refine Rf.go 100 [24] ?_
  refine And.intro hT ?_
  refine And.intro (by decide) ?_
  have p1 := t_power (K := K) (d := d) (M := M) (I := I) (J := J) (T := T) (p := p) (a := a.val) (n := (2 * c + 1 + 1) / 2) hT hp (by omega) hp2 a.isLt (by omega)
  rw [← e1] at p1
  refine p1.up (Nat.le_refl _) ?_
  rintro r M1 ⟨rfl, rfl⟩
  refine And.intro hT ?_
  have p2 := t_power (K := K) (d := d) (M := M) (I := I) (J := J) (T := T) (p := p) (a := a.val) (n := 2 * c + 1) hT hp (by omega) hp2 a.isLt (by omega)
  rw [← f1] at p2
  refine p2.up (Nat.le_refl _) ?_
  rintro r M1 ⟨rfl, rfl⟩
  refine And.intro hT ?_
  refine And.intro hT ?_
  refine Rf.weak [(5, .int (nI t + Int32.ofInt (-1))), (4, .int (nI (pw g (2 * c + 1)).val)), (3, .int (nI (pw a (2 * c + 1)).val)), (2, .int (nI (pw a ((2 * c + 1 + 1) / 2)).val)), (0, .ref T)] ⟨?_, ?_, ?_, ?_, rfl, trivial⟩ (key t (Nat.le_refl t) _ _ _ res)
  · show some (Value.int (I T 11 - Int32.ofInt 2)) = _
    rw [f2, ← nI_add]
    exact congrArg (fun z => some (Value.int z)) (by rw [Int32.sub_eq_add_neg, Int32.add_assoc]; rfl)
  · show some (Value.int (I T 12)) = _
    rw [f3, fin_pw (by omega)]
  · show some (Value.int (nI (a.val ^ (2 * c + 1) % p))) = _
    rw [fin_pw (by omega)]
  · show some (Value.int (nI (a.val ^ ((2 * c + 1 + 1) / 2) % p))) = _
    rw [fin_pw (by omega)]
