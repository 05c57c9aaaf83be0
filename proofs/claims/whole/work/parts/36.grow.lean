/-! the tower grows -/
def gD (D : Nat → Nat → Nat) (h : Nat) (v : Nat → Nat) : Nat → Nat → Nat := fun i => if i = h then v else D i
theorem gD_lt {D : Nat → Nat → Nat} {h i : Nat} {v : Nat → Nat} (hi : i < h) : gD D h v i = D i := if_neg (by omega)
theorem gD_eq {D : Nat → Nat → Nat} {h : Nat} {v : Nat → Nat} : gD D h v h = v := if_pos rfl
def twF (k : Nat) (R : RB) (d : Nat → Nat) : RB := ⟨R.1 × R.1, @qxI R.1 R.2.1 (R.2.2.1 d), fun v => (R.2.2.1 v, R.2.2.1 (fun j => v (2 ^ k + j))), fun x j => if j < 2 ^ k then R.2.2.2 x.1 j else R.2.2.2 x.2 (j - 2 ^ k)⟩
theorem tw_congr {p : Nat} [NeZero p] {D D' : Nat → Nat → Nat} : ∀ {k : Nat}, (∀ i, i < k → D i = D' i) → tw p D k = tw p D' k
  | 0, _ => rfl
  | k + 1, h => by
    show twF k (tw p D k) (D k) = twF k (tw p D' k) (D' k)
    rw [tw_congr (p := p) (k := k) (fun i hi => h i (by omega)), h k (by omega)]
def mulR (R : RB) (v w : Nat → Nat) : Nat → Nat := R.2.2.2 (R.2.1.mul (R.2.2.1 v) (R.2.2.1 w))
def uPR (R : RB) (d : Nat → Nat) (a b m : Nat) : Nat := R.2.2.2 (R.2.1.mul (R.2.1.mul (R.2.2.1 (un a)) (R.2.2.1 (un b))) (R.2.2.1 d)) m
def sqR (R : RB) (d : Nat → Nat) : Prop := @Sq R.1 R.2.1 (R.2.2.1 d)
def tvR (R : RB) (d : Nat → Nat) (j : Nat) : Nat := R.2.2.2 (R.2.2.1 d) j
theorem mulR_congr {p : Nat} [NeZero p] {D D' : Nat → Nat → Nat} {k : Nat} (h : ∀ i, i < k → D i = D' i) (v w : Nat → Nat) : tV p D k ((TI p D k).mul (oV p D k v) (oV p D k w)) = tV p D' k ((TI p D' k).mul (oV p D' k v) (oV p D' k w)) := by
  show mulR (tw p D k) v w = mulR (tw p D' k) v w
  rw [tw_congr h]
theorem uP_congr {p : Nat} [NeZero p] {D D' : Nat → Nat → Nat} {i j h : Nat} (hc : i &&& j = 0 ∨ tb (i &&& j) < h) (he : ∀ i, i < h → D i = D' i) (m : Nat) : uP p D i j m = uP p D' i j m := by
  unfold uP
  by_cases h0 : i &&& j = 0
  · rw [if_pos h0, if_pos h0]
  · rw [if_neg h0, if_neg h0]
    have ht : tb (i &&& j) < h := hc.resolve_left h0
    generalize tb (i &&& j) = t at ht
    show uPR (tw p D t) (D t) (i % 2 ^ t) (j % 2 ^ t) m = uPR (tw p D' t) (D' t) (i % 2 ^ t) (j % 2 ^ t) m
    rw [tw_congr (fun i hi => he i (by omega)), he t ht]
theorem tOk_congr {p : Nat} [NeZero p] {D D' : Nat → Nat → Nat} {h : Nat} (he : ∀ i, i < h → D i = D' i) (hD : tOk p D h) : tOk p D' h := by
  intro i hi
  have h1 : ¬ sqR (tw p D i) (D i) := hD i hi
  rw [tw_congr (fun j hj => he j (by omega)), he i hi] at h1
  exact h1
theorem TwA_congr {I : Nat → Nat → Int32} {T p h : Nat} [NeZero p] {D D' : Nat → Nat → Nat} (he : ∀ i, i < h → D i = D' i) (hA : TwA I T p h D) : TwA I T p h D' := by
  obtain ⟨⟨a, b, c, d, e⟩, hF, hB, hD, hp⟩ := hA
  refine ⟨⟨a, b, c, d, fun i j hi hj hc m hm => ?_⟩, hF, fun i hi j hj => ?_, tOk_congr he hD, hp⟩
  · rw [← uP_congr hc he]
    exact e i j hi hj hc m hm
  · have h1 : I (T + 2 + i) j = nI (tvR (tw p D i) (D i) j) := hB i hi j hj
    rw [tw_congr (fun j hj => he j (by omega)), he i hi] at h1
    exact h1
/-- the same coordinates in another tower -/
def cv (p : Nat) [NeZero p] (D : Nat → Nat → Nat) (k : Nat) (D' : Nat → Nat → Nat) (h : Nat) (X : TR p D k) : TR p D' h := oV p D' h (tV p D k X)
theorem cv_tV {p : Nat} [NeZero p] {D D' : Nat → Nat → Nat} {k h : Nat} (hk : k ≤ h) (X : TR p D k) : tV p D' h (cv p D k D' h X) = tV p D k X := tV_eq (fun j => tV_lt) (fun j hj => tV_hi (Nat.le_trans (Nat.pow_le_pow_right (by decide) hk) hj))
theorem Re.cv {I : Nat → Nat → Int32} {p : Nat} [NeZero p] {D D' : Nat → Nat → Nat} {k h a : Nat} (hk : k ≤ h) {X : TR p D k} (hX : Re I p D k a X) : Re I p D' h a (cv p D k D' h X) := fun j hj => (hX j hj).trans (congrArg nI (congrFun (cv_tV hk X) j).symm)
theorem cv_add {p : Nat} [NeZero p] {D D' : Nat → Nat → Nat} {k h : Nat} (hk : k ≤ h) (X Y : TR p D k) : cv p D k D' h ((TI p D k).add X Y) = (TI p D' h).add (cv p D k D' h X) (cv p D k D' h Y) := tV_inj (fun j _ => by rw [cv_tV hk, tV_add, tV_add, cv_tV hk, cv_tV hk])
theorem cv_neg {p : Nat} [NeZero p] {D D' : Nat → Nat → Nat} {k h : Nat} (hk : k ≤ h) (X : TR p D k) : cv p D k D' h ((TI p D k).neg X) = (TI p D' h).neg (cv p D k D' h X) := tV_inj (fun j _ => by rw [cv_tV hk, tV_neg, tV_neg, cv_tV hk])
theorem cv_mul {p : Nat} [NeZero p] {D D' : Nat → Nat → Nat} {k h : Nat} (hk : k ≤ h) (he : ∀ i, i < k → D i = D' i) (X Y : TR p D k) : cv p D k D' h ((TI p D k).mul X Y) = (TI p D' h).mul (cv p D k D' h X) (cv p D k D' h Y) := by
  have e1 : ∀ Z : TR p D k, cv p D k D' h Z = Em p D' k h (cv p D k D' k Z) := fun Z => tV_inj (fun j _ => by rw [cv_tV hk, Em_tV hk, cv_tV (Nat.le_refl k)])
  rw [e1, e1 X, e1 Y, ← Em_mul hk]
  congr 1
  refine tV_inj (fun j _ => ?_)
  rw [cv_tV (Nat.le_refl k)]
  have h2 := congrFun (mulR_congr (p := p) he (tV p D k X) (tV p D k Y)) j
  rw [oV_tV, oV_tV] at h2
  exact h2
theorem cv_one {p : Nat} [NeZero p] {D D' : Nat → Nat → Nat} (hp : 2 ≤ p) {k h : Nat} (hk : k ≤ h) : cv p D k D' h ((TI p D k).ofNat 1).ofNat = ((TI p D' h).ofNat 1).ofNat := tV_inj (fun j _ => by rw [cv_tV hk, tV_one hp, tV_one hp])
theorem cv_nul {p : Nat} [NeZero p] {D D' : Nat → Nat → Nat} {k h : Nat} (hk : k ≤ h) : cv p D k D' h ((TI p D k).ofNat 0).ofNat = ((TI p D' h).ofNat 0).ofNat := tV_inj (fun j _ => by rw [cv_tV hk, tV_zero, tV_zero])
theorem cv_inj {p : Nat} [NeZero p] {D D' : Nat → Nat → Nat} {k h : Nat} (hk : k ≤ h) {X Y : TR p D k} (e : cv p D k D' h X = cv p D k D' h Y) : X = Y := by
  refine tV_inj (fun j _ => ?_)
  have := congrArg (fun z => tV p D' h z j) e
  have : tV p D' h (cv p D k D' h X) j = tV p D' h (cv p D k D' h Y) j := this
  rw [cv_tV hk, cv_tV hk] at this
  exact this
/-- the tower with a new base -/
theorem gD_tOk {p : Nat} [NeZero p] {D : Nat → Nat → Nat} {h : Nat} (hD : tOk p D h) {X : TR p D h} (hX : ¬ @Sq (TR p D h) (TI p D h) X) : tOk p (gD D h (tV p D h X)) (h + 1) := by
  have he : ∀ i, i < h → D i = gD D h (tV p D h X) i := fun i hi => (gD_lt hi).symm
  intro i hi
  by_cases e : i = h
  · subst e
    show ¬ sqR (tw p (gD D i (tV p D i X)) i) (gD D i (tV p D i X) i)
    rw [gD_eq, ← tw_congr he]
    show ¬ @Sq (TR p D i) (TI p D i) (oV p D i (tV p D i X))
    rw [oV_tV]
    exact hX
  · exact tOk_congr he hD i (by omega)
def hob (c : Nat) : Nat := if c = 0 then 0 else 2 ^ tb c
theorem t_hob {K : Ka} {d c : Nat} {M : Me} (h8 : c < 8) : Ok K (d + 2) 162 [.int (nI c)] M (fun r M1 => r = some (.int (nI (hob c))) ∧ M1 = M) := by
  refine (Ok.up (d := 2) ?_ (by omega) (fun _ _ h => h))
  rcases (show c = 0 ∨ c = 1 ∨ c = 2 ∨ c = 3 ∨ c = 4 ∨ c = 5 ∨ c = 6 ∨ c = 7 by omega) with rfl | rfl | rfl | rfl | rfl | rfl | rfl | rfl
  · exact ⟨100, _, M, rfl, rfl, rfl⟩
  · exact ⟨100, _, M, rfl, rfl, rfl⟩
  · exact ⟨100, _, M, rfl, rfl, rfl⟩
  · exact ⟨100, _, M, rfl, rfl, rfl⟩
  · exact ⟨100, _, M, rfl, rfl, rfl⟩
  · exact ⟨100, _, M, rfl, rfl, rfl⟩
  · exact ⟨100, _, M, rfl, rfl, rfl⟩
  · exact ⟨100, _, M, rfl, rfl, rfl⟩
theorem hob_iff : ∀ c, c < 8 → ∀ h, h < 3 → (hob c = 2 ^ h ↔ (¬ c = 0 ∧ tb c = h)) := by decide
theorem hob_lt : ∀ c, c < 8 → hob c < 8 := by decide
theorem andw : ∀ h, h < 3 → ∀ i, i < 8 → nI i &&& (nI (2 ^ h) - Int32.ofInt 1) = nI (i % 2 ^ h) := by decide
theorem spn_tb : ∀ c, c < 8 → ¬ c = 0 → spn c = 2 ^ tb c := by decide
theorem and_lt8 : ∀ i, i < 8 → ∀ j, j < 8 → i &&& j < 8 := by decide
theorem p4 {h : Nat} (hh : h < 3) : 2 ^ h ≤ 4 := by
  rcases (show h = 0 ∨ h = 1 ∨ h = 2 by omega) with rfl | rfl | rfl <;> decide
/-- the first m places of a kept product -/
def upW (f : Nat → Int32) (q0 m : Nat) (g : Nat → Int32) : Nat → Int32 := fun q => if q0 ≤ q ∧ q < q0 + m then g (q - q0) else f q
theorem upW_0 {f : Nat → Int32} {q0 : Nat} {g : Nat → Int32} : upW f q0 0 g = f := by
  funext q
  unfold upW
  rw [if_neg (by omega)]
theorem upW_s {f : Nat → Int32} {q0 m : Nat} {g : Nat → Int32} : va_up (upW f q0 m g) (q0 + m) (g m) = upW f q0 (m + 1) g := by
  funext q
  unfold va_up
  by_cases e : q = q0 + m
  · subst e
    rw [if_pos rfl]
    unfold upW
    rw [if_pos (by omega), Nat.add_sub_cancel_left]
  · rw [if_neg e]
    unfold upW
    by_cases h1 : q0 ≤ q ∧ q < q0 + m
    · rw [if_pos h1, if_pos (by omega)]
    · rw [if_neg h1, if_neg (by omega)]
section Gr
variable {K : Ka} {d T x y out p h : Nat} {M : Me} {I : Nat → Nat → Int32} {J : Nat → Nat → Int64} {D : Nat → Nat → Nat}
set_option maxHeartbeats 4000000 in
theorem e_lup [NeZero p] {i j : Nat} {B : TR p D h} (hK : Ksp K) (hT : TwM M T) (hI : TwI I T p h D) (hh : h < 3) (hi : i < 8) (hj : j < 8) (hB : Re I p D h (T + 2 + h) B) : Ok K (d + 2) 67 [.ref T, .int (nI i), .int (nI j)] (St M I J) (fun r M1 => r = none ∧ ∃ I1 J1, M1 = St M I1 J1 ∧ I1 (T + 5) = upW (I (T + 5)) ((i * 8 + j) * 4) (2 ^ h) (fun m => nI (tV p D h ((TI p D h).mul ((TI p D h).mul (oV p D h (un (i % 2 ^ h))) (oV p D h (un (j % 2 ^ h)))) B) m)) ∧ ∀ a, a ≠ T + 5 → a ≠ T + 7 → a ≠ T + 8 → I1 a = I a) := by
  have hTc := hT.1
  obtain ⟨hRb, hBc, hBl, hBr⟩ := hT.2.1
  obtain ⟨hRu, hUc, hUl⟩ := hT.2.2.1
  obtain ⟨hR5, hR6, hR7, hR8⟩ := hT.2.2.2.2.1
  have hrow := hT.2.2.2.2.2.2
  have r7 : rc M (T + 7) := hrow _ (Or.inr (Or.inl ⟨by omega, by omega⟩))
  have r8 : rc M (T + 8) := hrow _ (Or.inr (Or.inl ⟨by omega, by omega⟩))
  have rB : rc M (T + 2 + h) := hrow _ (Or.inl ⟨by omega, by omega⟩)
  have hpb := hI.2.2.2.1
  have hp4 := p4 hh
  have hw1 : 0 < 2 ^ h := Nat.pow_pos (by decide)
  refine Ok.go (e := me_67) rfl rfl (Nat.le_of_ble_eq_true rfl) hTc ?_
  generalize hg : (fun m => nI (tV p D h ((TI p D h).mul ((TI p D h).mul (oV p D h (un (i % 2 ^ h))) (oV p D h (un (j % 2 ^ h)))) B) m)) = g
  have ew : Int32.ofInt 1 <<< (I T 1 &&& 31) = nI (2 ^ h) := by rw [hI.2.1]; exact shl1 h (by omega)
  have ei : nI i &&& (Int32.ofInt 1 <<< (I T 1 &&& 31) - Int32.ofInt 1) = nI (i % 2 ^ h) := by rw [ew]; exact andw h hh i hi
  have ej : nI j &&& (Int32.ofInt 1 <<< (I T 1 &&& 31) - Int32.ofInt 1) = nI (j % 2 ^ h) := by rw [ew]; exact andw h hh j hj
  have ekp : (nI i * Int32.ofInt 8 + nI j) * Int32.ofInt 4 = nI ((i * 8 + j) * 4) := by
    rw [show Int32.ofInt 8 = nI 8 from rfl, show Int32.ofInt 4 = nI 4 from rfl, pk_mul, nI_add, pk_mul]
  refine Rf.go 200 [52] ?_
  refine And.intro hTc ?_
  refine And.intro hTc ⟨T + 7, hR5, ?_⟩
  have q1 := e_unit (p := p) (K := K) (d := d) (M := M) (I := I) (J := J) (D := D) (out := T + 7) (k := h) (u := i % 2 ^ h) hT (by omega) (by omega) (Nat.mod_lt _ hw1) r7
  rw [← ei] at q1
  refine Wr.go q1 (by omega) (fun J1 => ?_)
  generalize hI1 : rwE I p D h (T + 7) _ = I1
  have f1 : ∀ a, a ≠ T + 7 → I1 a = I a := fun a h1 => by rw [← hI1]; exact rwE_ne h1
  have hN1 : Re I1 p D h (T + 7) (oV p D h (un (i % 2 ^ h))) := by rw [← hI1]; exact Re_rwE
  refine And.intro hTc ⟨T + 8, hR6, ?_⟩
  have q2 := e_unit (p := p) (K := K) (d := d) (M := M) (I := I1) (J := J1) (D := D) (out := T + 8) (k := h) (u := j % 2 ^ h) hT (by omega) (by omega) (Nat.mod_lt _ hw1) r8
  rw [← ej] at q2
  refine Wr.go q2 (by omega) (fun J2 => ?_)
  generalize hI2 : rwE I1 p D h (T + 8) _ = I2
  have f2 : ∀ a, a ≠ T + 8 → I2 a = I1 a := fun a h1 => by rw [← hI2]; exact rwE_ne h1
  have hM2 : Re I2 p D h (T + 8) (oV p D h (un (j % 2 ^ h))) := by rw [← hI2]; exact Re_rwE
  have hTI2 : TwI I2 T p h D := hI.keep (by rw [f2 _ (by omega), f1 _ (by omega)]) (by rw [f2 _ (by omega), f1 _ (by omega)])
  refine And.intro hTc ⟨T + 7, hR5, ?_⟩
  refine And.intro hTc ⟨T + 8, hR6, ?_⟩
  refine And.intro hTc ⟨T + 7, hR5, ?_⟩
  refine Wr.go (e_mul (d := d) hK hT hTI2 r7 r8 r7 (hN1.keep (f2 _ (by omega))) hM2) (by omega) (fun J3 => ?_)
  generalize hI3 : rwE I2 p D h (T + 7) _ = I3
  have f3 : ∀ a, a ≠ T + 7 → I3 a = I2 a := fun a h1 => by rw [← hI3]; exact rwE_ne h1
  have hN3 : Re I3 p D h (T + 7) ((TI p D h).mul (oV p D h (un (i % 2 ^ h))) (oV p D h (un (j % 2 ^ h)))) := by rw [← hI3]; exact Re_rwE
  have hTI3 : TwI I3 T p h D := hTI2.keep (f3 _ (by omega)) (f3 _ (by omega))
  have hB3 : Re I3 p D h (T + 2 + h) B := hB.keep (by rw [f3 _ (by omega), f2 _ (by omega), f1 _ (by omega)])
  refine And.intro hTc ⟨T + 7, hR5, ?_⟩
  refine And.intro hTc ⟨T + 1, hRb, ?_⟩
  refine And.intro hTc ?_
  refine And.intro ⟨hBc, by show inb (I3 T 1) (mH M (T + 1)).2 = true; rw [hTI3.2.1, hBl]; exact inb_n (by omega) (by omega)⟩ ⟨T + 2 + h, by show mR M (T + 1) (I3 T 1).toNatClampNeg = _; rw [hTI3.2.1, nI_clamp (by omega)]; exact hBr h hh, ?_⟩
  refine And.intro hTc ⟨T + 7, hR5, ?_⟩
  refine Wr.go (e_mul (d := d) hK hT hTI3 r7 rB r7 hN3 hB3) (by omega) (fun J4 => ?_)
  generalize hI4 : rwE I3 p D h (T + 7) _ = I4
  have f4 : ∀ a, a ≠ T + 7 → a ≠ T + 8 → I4 a = I a := fun a h1 h2 => by
    rw [← hI4, rwE_ne h1, f3 a h1, f2 a h2, f1 a h1]
  have hN4 : ∀ m, m < 8 → I4 (T + 7) m = g m := fun m hm => by
    rw [← hI4, ← hg]
    exact Re_rwE m hm
  have hw : ∀ m, m ≤ 2 ^ h → ∀ J5 : Nat → Nat → Int64, Rf K (d + 1) mc_67 52 (lk [(5, .int (nI m)), (4, .int (nI ((i * 8 + j) * 4))), (3, .int (nI (2 ^ h))), (0, .ref T)]) [] (St M (rwA I4 (T + 5) (upW (I4 (T + 5)) ((i * 8 + j) * 4) m g)) J5) (fun r M1 => rok me_67.2.2.2.1 r = true ∧ r = none ∧ ∃ I1 J1, M1 = St M I1 J1 ∧ I1 (T + 5) = upW (I (T + 5)) ((i * 8 + j) * 4) (2 ^ h) g ∧ ∀ a, a ≠ T + 5 → a ≠ T + 7 → a ≠ T + 8 → I1 a = I a) := by
    refine for_up (2 ^ h) (fun J5 => ?_) (fun m hm ihm J5 => ?_)
    · refine Rf.go 100 [52] ?_
      refine And.intro (fun _ => ?_) (fun hb => absurd ((geN (by omega) (by omega)).mpr (Nat.le_refl _)) hb)
      refine ⟨rfl, rfl, _, J5, rfl, ?_, fun a h1 h2 h3 => ?_⟩
      · rw [rwA_eq, f4 _ (by omega) (by omega)]
      · rw [rwA_ne h1, f4 a h2 h3]
    · refine Rf.go 100 [52] ?_
      refine And.intro (fun hb => absurd ((geN (by omega) (by omega)).mp hb) (by omega)) (fun _ => ?_)
      refine And.intro (fun hb => absurd ((geN (n := 4) (by omega) (by omega)).mp hb) (by omega)) (fun _ => ?_)
      have eq1 : nI ((i * 8 + j) * 4) + nI m = nI ((i * 8 + j) * 4 + m) := nI_add _ _
      refine And.intro hTc ⟨T + 5, hRu, ?_⟩
      refine And.intro hTc ⟨T + 7, hR5, ?_⟩
      refine Or.inr (And.intro ⟨r7.1, rc_in r7 (by omega)⟩ ?_)
      refine And.intro ⟨hUc, by show inb (nI ((i * 8 + j) * 4) + nI m) (mH M (T + 5)).2 = true; rw [eq1, hUl]; exact inb_n (by omega) (by omega)⟩ ?_
      refine Rf.weak [(5, .int (nI (m + 1))), (4, .int (nI ((i * 8 + j) * 4))), (3, .int (nI (2 ^ h))), (0, .ref T)] ⟨inc1 m, rfl, rfl, rfl, trivial⟩ ?_
      have e9 : u2 (rwA I4 (T + 5) (upW (I4 (T + 5)) ((i * 8 + j) * 4) m g)) (T + 5) (nI ((i * 8 + j) * 4) + nI m).toNatClampNeg (rwA I4 (T + 5) (upW (I4 (T + 5)) ((i * 8 + j) * 4) m g) (T + 7) (nI m).toNatClampNeg) = rwA I4 (T + 5) (upW (I4 (T + 5)) ((i * 8 + j) * 4) (m + 1) g) := by
        rw [rwA_ne (by omega), nI_clamp (show m < 2 ^ 31 by omega), hN4 m (by omega), eq1, nI_clamp (by omega)]
        funext b
        unfold u2
        by_cases eb : b = T + 5
        · subst eb
          rw [if_pos rfl, rwA_eq, rwA_eq, upW_s]
        · rw [if_neg eb, rwA_ne eb, rwA_ne eb]
      have := ihm J5
      rw [← e9] at this
      exact this
  have h0 := hw 0 (by omega) J4
  rw [upW_0] at h0
  have e8 : rwA I4 (T + 5) (I4 (T + 5)) = I4 := by
    funext b
    by_cases eb : b = T + 5
    · subst eb; rw [rwA_eq]
    · rw [rwA_ne eb]
  rw [e8] at h0
  exact Rf.weak [(5, .int (nI 0)), (4, .int (nI ((i * 8 + j) * 4))), (3, .int (nI (2 ^ h))), (0, .ref T)] ⟨rfl, congrArg (fun z => some (Value.int z)) ekp, congrArg (fun z => some (Value.int z)) ew, rfl, trivial⟩ h0
end Gr
