/-! rows that hold elements of the tower; the tower's cells -/
def TwM (M : Me) (T : Nat) : Prop := isC M T 3 = true ∧ (mR M T 2 = some (T + 1) ∧ isC M (T + 1) 13 = true ∧ (mH M (T + 1)).2 = 3 ∧ ∀ i, i < 3 → mR M (T + 1) i = some (T + 2 + i)) ∧ (mR M T 3 = some (T + 5) ∧ isC M (T + 5) 10 = true ∧ (mH M (T + 5)).2 = 256) ∧ (mR M T 4 = some (T + 6) ∧ isC M (T + 6) 11 = true ∧ (mH M (T + 6)).2 = 8) ∧ (mR M T 5 = some (T + 7) ∧ mR M T 6 = some (T + 8) ∧ mR M T 7 = some (T + 9) ∧ mR M T 8 = some (T + 10)) ∧ (mR M T 9 = some (T + 11) ∧ isC M (T + 11) 13 = true ∧ (mH M (T + 11)).2 = 12 ∧ ∀ i, i < 12 → mR M (T + 11) i = some (T + 12 + i)) ∧ ∀ a, (T + 2 ≤ a ∧ a < T + 5) ∨ (T + 7 ≤ a ∧ a < T + 11) ∨ (T + 12 ≤ a ∧ a < T + 24) → rc M a
/-- the static table of spans -/
def Ksp (K : Ka) : Prop := (K 0).1 = 8 ∧ ∀ c, c < 8 → (K 0).2 c = nI (spn c)
/-- the tower's numbers: prime, height, table -/
def TwI (I : Nat → Nat → Int32) (T p h : Nat) [NeZero p] (D : Nat → Nat → Nat) : Prop := I T 0 = nI p ∧ I T 1 = nI h ∧ h ≤ 3 ∧ (3 ≤ p ∧ p ≤ 32749) ∧ ∀ i j, i < 8 → j < 8 → (i &&& j = 0 ∨ tb (i &&& j) < h) → ∀ m, m < spn (i &&& j) → I (T + 5) ((i * 8 + j) * 4 + m) = nI (uP p D i j m)
/-- row a holds X -/
def Re (I : Nat → Nat → Int32) (p : Nat) [NeZero p] (D : Nat → Nat → Nat) (h a : Nat) (X : TR p D h) : Prop := ∀ j, j < 8 → I a j = nI (tV p D h X j)
def rwE (I : Nat → Nat → Int32) (p : Nat) [NeZero p] (D : Nat → Nat → Nat) (h a : Nat) (X : TR p D h) : Nat → Nat → Int32 := rw8 I a 8 (fun j => nI (tV p D h X j))
theorem Re_rwE {I : Nat → Nat → Int32} {p : Nat} [NeZero p] {D : Nat → Nat → Nat} {h a : Nat} {X : TR p D h} : Re (rwE I p D h a X) p D h a X := fun j hj => rw8_eq hj
theorem rwE_ne {I : Nat → Nat → Int32} {p : Nat} [NeZero p] {D : Nat → Nat → Nat} {h a b : Nat} {X : TR p D h} (hb : b ≠ a) : rwE I p D h a X b = I b := rw8_ne hb
theorem Re.keep {I I1 : Nat → Nat → Int32} {p : Nat} [NeZero p] {D : Nat → Nat → Nat} {h a : Nat} {X : TR p D h} (hX : Re I p D h a X) (hI : I1 a = I a) : Re I1 p D h a X := fun j hj => by rw [hI]; exact hX j hj
theorem TwI.keep {I I1 : Nat → Nat → Int32} {T p h : Nat} [NeZero p] {D : Nat → Nat → Nat} (hT : TwI I T p h D) (h1 : I1 T = I T) (h2 : I1 (T + 5) = I (T + 5)) : TwI I1 T p h D := by
  obtain ⟨a, b, c, d, e⟩ := hT
  exact ⟨by rw [h1]; exact a, by rw [h1]; exact b, c, d, fun i j hi hj hc m hm => by rw [h2]; exact e i j hi hj hc m hm⟩
theorem rw8_congr {I : Nat → Nat → Int32} {a : Nat} {f g : Nat → Int32} (h : ∀ j, j < 8 → f j = g j) : rw8 I a 8 f = rw8 I a 8 g := by
  funext b
  unfold rw8
  by_cases e : b = a
  · rw [if_pos e, if_pos e]
    funext j
    by_cases hj : j < 8
    · rw [if_pos hj, if_pos hj, h j hj]
    · rw [if_neg hj, if_neg hj]
  · rw [if_neg e, if_neg e]
theorem tb_lt {h i j : Nat} (hh : h ≤ 3) (hi : i < 2 ^ h) (hj : j < 2 ^ h) : i &&& j = 0 ∨ tb (i &&& j) < h := by
  have key : ∀ h, h < 4 → ∀ i, i < 2 ^ h → ∀ j, j < 2 ^ h → i &&& j = 0 ∨ tb (i &&& j) < h := by decide
  exact key h (by omega) i hi j hj
theorem uP_lt {p : Nat} [NeZero p] {D : Nat → Nat → Nat} (hp : 2 ≤ p) (i j m : Nat) : uP p D i j m < p := by
  unfold uP
  split
  · unfold un; split <;> omega
  · exact tV_lt
section El
variable {K : Ka} {d T x y out p h : Nat} {M : Me} {I : Nat → Nat → Int32} {J : Nat → Nat → Int64} {D : Nat → Nat → Nat}
/-- a method that writes one row -/
def Wr (K : Ka) (d j : Nat) (as : List Value) (M : Me) (I : Nat → Nat → Int32) (J : Nat → Nat → Int64) (I1 : Nat → Nat → Int32) : Prop := Ok K d j as (St M I J) (fun r M1 => r = none ∧ ∃ J', M1 = St M I1 J')
theorem Wr.go {K : Ka} {d d' j : Nat} {as : List Value} {M : Me} {I I1 : Nat → Nat → Int32} {J : Nat → Nat → Int64} {post : Option Value → Me → Prop} (h : Wr K d j as M I J I1) (hd : d ≤ d') (hp : ∀ J', post none (St M I1 J')) : Ok K d' j as (St M I J) post := by
  refine Ok.up h hd ?_
  rintro r M1 ⟨rfl, J', rfl⟩
  exact hp J'
theorem e_add [NeZero p] {X Y : TR p D h} (hT : TwM M T) (hI : TwI I T p h D) (hx : rc M x) (hy : rc M y) (ho : rc M out) (hX : Re I p D h x X) (hY : Re I p D h y Y) : Wr K (d + 1) 54 [.ref T, .ref x, .ref y, .ref out] M I J (rwE I p D h out ((TI p D h).add X Y)) := by
  refine (t_add hT.1 hx hy ho).up (Nat.le_refl _) ?_
  rintro r M1 ⟨rfl, rfl⟩
  refine ⟨rfl, J, ?_⟩
  unfold rwE
  rw [rw8_congr (fun j hj => ?_)]
  have h1 := tV_lt (p := p) (D := D) (x := X) (j := j)
  have h2 := tV_lt (p := p) (D := D) (x := Y) (j := j)
  have hpb := hI.2.2.2.1.2
  rw [hX j hj, hY j hj, hI.1, nI_add, tV_add]
  by_cases hc : tV p D h X j + tV p D h Y j < p
  · rw [if_pos (nI_lt hc (by omega)), Nat.mod_eq_of_lt hc]
  · rw [if_neg (nI_nlt (by omega) (by omega)), pk_sub (by omega)]
    congr 1
    rw [Nat.mod_eq_sub_mod (by omega), Nat.mod_eq_of_lt (by omega)]
theorem e_copy [NeZero p] {X : TR p D h} (hT : TwM M T) (hx : rc M x) (ho : rc M out) (hX : Re I p D h x X) : Wr K (d + 1) 48 [.ref T, .ref x, .ref out] M I J (rwE I p D h out X) := by
  refine (t_copy hT.1 hx ho).up (Nat.le_refl _) ?_
  rintro r M1 ⟨rfl, rfl⟩
  exact ⟨rfl, J, by unfold rwE; rw [rw8_congr (fun j hj => hX j hj)]⟩
theorem e_mul [NeZero p] {X Y : TR p D h} (hK : Ksp K) (hT : TwM M T) (hI : TwI I T p h D) (hx : rc M x) (hy : rc M y) (ho : rc M out) (hX : Re I p D h x X) (hY : Re I p D h y Y) : Wr K (d + 1) 58 [.ref T, .ref x, .ref y, .ref out] M I J (rwE I p D h out ((TI p D h).mul X Y)) := by
  obtain ⟨i1, i2, i3, i4, i5⟩ := hI
  refine (t_mul (u := fun t => uP p D (t / 4 / 8) (t / 4 % 8) (t % 4)) (v := tV p D h X) (w := tV p D h Y) hK hT.1 hT.2.2.2.1.2 hT.2.2.2.1.1 hT.2.2.1.2 hT.2.2.1.1 hx hy ho i1 (by omega) i4.2 i2 i3 (fun j hj => ⟨hX j hj, tV_lt⟩) (fun j hj => ⟨hY j hj, tV_lt⟩) ?_).up (Nat.le_refl _) ?_
  · intro i j hi hj m hm
    have hw := w8 i3
    obtain ⟨-, -, -, q4⟩ := sp8 i (by omega) j (by omega)
    have e1 : ((i * 8 + j) * 4 + m) / 4 = i * 8 + j := by omega
    have e2 : ((i * 8 + j) * 4 + m) % 4 = m := by omega
    have e3 : (i * 8 + j) / 8 = i := by omega
    have e4 : (i * 8 + j) % 8 = j := by omega
    show _ = nI (uP p D (((i * 8 + j) * 4 + m) / 4 / 8) (((i * 8 + j) * 4 + m) / 4 % 8) (((i * 8 + j) * 4 + m) % 4)) ∧ uP p D (((i * 8 + j) * 4 + m) / 4 / 8) (((i * 8 + j) * 4 + m) / 4 % 8) (((i * 8 + j) * 4 + m) % 4) < p
    rw [e1, e2, e3, e4]
    exact ⟨i5 i j (by omega) (by omega) (tb_lt i3 hi hj) m hm, uP_lt (by omega) i j m⟩
  · rintro r M1 ⟨rfl, J', rfl⟩
    refine ⟨rfl, J', ?_⟩
    unfold rwE
    rw [rw8_congr (fun k hk => ?_)]
    congr 1
    rw [mulS_ok (D := D) (by omega) i3 (fun i j hi hj m hm => ?_) k, oV_tV, oV_tV]
    have hw := w8 i3
    obtain ⟨-, -, -, q4⟩ := sp8 i (by omega) j (by omega)
    have e1 : ((i * 8 + j) * 4 + m) / 4 = i * 8 + j := by omega
    have e2 : ((i * 8 + j) * 4 + m) % 4 = m := by omega
    have e3 : (i * 8 + j) / 8 = i := by omega
    have e4 : (i * 8 + j) % 8 = j := by omega
    show uP p D (((i * 8 + j) * 4 + m) / 4 / 8) (((i * 8 + j) * 4 + m) / 4 % 8) (((i * 8 + j) * 4 + m) % 4) = uP p D i j m
    rw [e1, e2, e3, e4]
theorem z8_el [NeZero p] {X : TR p D h} (hh : h ≤ 3) (hp : p ≤ 32749) (hX : Re I p D h x X) : z8 (I x) = true ↔ X = ((TI p D h).ofNat 0).ofNat := by
  have hw := w8 hh
  rw [z8_iff]
  constructor
  · intro hz
    refine tV_inj (fun j hj => ?_)
    rw [tV_zero]
    have h1 := hz j (by omega)
    rw [hX j (by omega)] at h1
    have h2 := tV_lt (p := p) (D := D) (x := X) (j := j)
    exact (nI_eq (b := 0) (by omega) (by omega)).mp h1
  · rintro rfl j hj
    rw [hX j hj, tV_zero]
    rfl
theorem s8_el [NeZero p] {X Y : TR p D h} (hh : h ≤ 3) (hp : p ≤ 32749) (hX : Re I p D h x X) (hY : Re I p D h y Y) : s8 (I x) (I y) = true ↔ X = Y := by
  have hw := w8 hh
  rw [s8_iff]
  constructor
  · intro hz
    refine tV_inj (fun j hj => ?_)
    have h1 := hz j (by omega)
    rw [hX j (by omega), hY j (by omega)] at h1
    have h2 := tV_lt (p := p) (D := D) (x := X) (j := j)
    have h3 := tV_lt (p := p) (D := D) (x := Y) (j := j)
    exact (nI_eq (by omega) (by omega)).mp h1
  · rintro rfl j hj
    rw [hX j hj, hY j hj]
end El
