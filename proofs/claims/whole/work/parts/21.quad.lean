/-! a ring with one more square root: pairs (a, b) = a + b r, r r = D -/
def qxI {R : Type} [I : Lean.Grind.CommRing R] (D : R) : Lean.Grind.CommRing (R × R) where
  add x y := (x.1 + y.1, x.2 + y.2)
  mul x y := (x.1 * y.1 + x.2 * y.2 * D, x.1 * y.2 + x.2 * y.1)
  natCast := ⟨fun n => (OfNat.ofNat (α := R) n, 0)⟩
  ofNat n := ⟨(OfNat.ofNat (α := R) n, 0)⟩
  nsmul := ⟨fun n x => (OfNat.ofNat (α := R) n * x.1 + 0 * x.2 * D, OfNat.ofNat (α := R) n * x.2 + 0 * x.1)⟩
  npow := ⟨fun x n => Nat.rec (motive := fun _ => R × R) (1, 0) (fun _ y => (y.1 * x.1 + y.2 * x.2 * D, y.1 * x.2 + y.2 * x.1)) n⟩
  neg x := (-x.1, -x.2)
  sub x y := (x.1 - y.1, x.2 - y.2)
  intCast := ⟨fun i => (I.intCast.intCast i, 0)⟩
  zsmul := ⟨fun i x => (I.intCast.intCast i * x.1 + 0 * x.2 * D, I.intCast.intCast i * x.2 + 0 * x.1)⟩
  add_zero a := Prod.ext (show a.1 + 0 = a.1 by grind) (show a.2 + 0 = a.2 by grind)
  add_comm a b := Prod.ext (show a.1 + b.1 = b.1 + a.1 by grind) (show a.2 + b.2 = b.2 + a.2 by grind)
  add_assoc a b c := Prod.ext (show a.1 + b.1 + c.1 = a.1 + (b.1 + c.1) by grind) (show a.2 + b.2 + c.2 = a.2 + (b.2 + c.2) by grind)
  mul_assoc a b c := Prod.ext (show (a.1 * b.1 + a.2 * b.2 * D) * c.1 + (a.1 * b.2 + a.2 * b.1) * c.2 * D = a.1 * (b.1 * c.1 + b.2 * c.2 * D) + a.2 * (b.1 * c.2 + b.2 * c.1) * D by grind) (show (a.1 * b.1 + a.2 * b.2 * D) * c.2 + (a.1 * b.2 + a.2 * b.1) * c.1 = a.1 * (b.1 * c.2 + b.2 * c.1) + a.2 * (b.1 * c.1 + b.2 * c.2 * D) by grind)
  mul_one a := Prod.ext (show a.1 * 1 + a.2 * 0 * D = a.1 by grind) (show a.1 * 0 + a.2 * 1 = a.2 by grind)
  one_mul a := Prod.ext (show 1 * a.1 + 0 * a.2 * D = a.1 by grind) (show 1 * a.2 + 0 * a.1 = a.2 by grind)
  left_distrib a b c := Prod.ext (show a.1 * (b.1 + c.1) + a.2 * (b.2 + c.2) * D = a.1 * b.1 + a.2 * b.2 * D + (a.1 * c.1 + a.2 * c.2 * D) by grind) (show a.1 * (b.2 + c.2) + a.2 * (b.1 + c.1) = a.1 * b.2 + a.2 * b.1 + (a.1 * c.2 + a.2 * c.1) by grind)
  right_distrib a b c := Prod.ext (show (a.1 + b.1) * c.1 + (a.2 + b.2) * c.2 * D = a.1 * c.1 + a.2 * c.2 * D + (b.1 * c.1 + b.2 * c.2 * D) by grind) (show (a.1 + b.1) * c.2 + (a.2 + b.2) * c.1 = a.1 * c.2 + a.2 * c.1 + (b.1 * c.2 + b.2 * c.1) by grind)
  zero_mul a := Prod.ext (show 0 * a.1 + 0 * a.2 * D = 0 by grind) (show 0 * a.2 + 0 * a.1 = 0 by grind)
  mul_zero a := Prod.ext (show a.1 * 0 + a.2 * 0 * D = 0 by grind) (show a.1 * 0 + a.2 * 0 = 0 by grind)
  mul_comm a b := Prod.ext (show a.1 * b.1 + a.2 * b.2 * D = b.1 * a.1 + b.2 * a.2 * D by grind) (show a.1 * b.2 + a.2 * b.1 = b.1 * a.2 + b.2 * a.1 by grind)
  pow_zero a := rfl
  pow_succ a n := rfl
  ofNat_succ a := Prod.ext (I.ofNat_succ a) (show (0 : R) = 0 + 0 by grind)
  ofNat_eq_natCast n := rfl
  nsmul_eq_natCast_mul n a := rfl
  neg_add_cancel a := Prod.ext (show -a.1 + a.1 = 0 by grind) (show -a.2 + a.2 = 0 by grind)
  sub_eq_add_neg a b := Prod.ext (show a.1 - b.1 = a.1 + -b.1 by grind) (show a.2 - b.2 = a.2 + -b.2 by grind)
  neg_zsmul i a := by
    have h := I.intCast_neg i
    refine Prod.ext ?_ ?_
    · show I.intCast.intCast (-i) * a.1 + 0 * a.2 * D = -(I.intCast.intCast i * a.1 + 0 * a.2 * D)
      have h : I.intCast.intCast (-i) = -I.intCast.intCast i := h
      rw [h]
      grind
    · show I.intCast.intCast (-i) * a.2 + 0 * a.1 = -(I.intCast.intCast i * a.2 + 0 * a.1)
      have h : I.intCast.intCast (-i) = -I.intCast.intCast i := h
      rw [h]
      grind
  zsmul_natCast_eq_nsmul n a := by
    have h : I.intCast.intCast (n : Int) = (OfNat.ofNat (α := R) n) := I.intCast_ofNat n
    refine Prod.ext ?_ ?_
    · show I.intCast.intCast (n : Int) * a.1 + 0 * a.2 * D = _
      rw [h]; rfl
    · show I.intCast.intCast (n : Int) * a.2 + 0 * a.1 = _
      rw [h]; rfl
  intCast_ofNat n := Prod.ext (I.intCast_ofNat n) rfl
  intCast_neg i := Prod.ext (I.intCast_neg i) (show (0 : R) = -0 by grind)
/-- a field of p^e: odd, p times all is 0, no divisors of 0, x^q = x, and Euler's power tells the squares -/
def Sq {R : Type} [Lean.Grind.CommRing R] (x : R) : Prop := ∃ y : R, y * y = x
def Fl (R : Type) [Lean.Grind.CommRing R] (p e : Nat) : Prop := Pr p ∧ p % 2 = 1 ∧ 0 < e ∧ (∀ x : R, nm p x = 0) ∧ ¬ (1 : R) = 0 ∧ (∀ x y : R, x * y = 0 → x = 0 ∨ y = 0) ∧ (∀ x : R, pw x (p ^ e) = x) ∧ ∀ x : R, pw x ((p ^ e - 1) / 2) = 1 → Sq x
section Fls
theorem Fl.pr {R : Type} [Lean.Grind.CommRing R] {p e : Nat} (h : Fl R p e) : Pr p := h.1
theorem Fl.odd {R : Type} [Lean.Grind.CommRing R] {p e : Nat} (h : Fl R p e) : p % 2 = 1 := h.2.1
theorem Fl.e0 {R : Type} [Lean.Grind.CommRing R] {p e : Nat} (h : Fl R p e) : 0 < e := h.2.2.1
theorem Fl.ch {R : Type} [Lean.Grind.CommRing R] {p e : Nat} (h : Fl R p e) : ∀ x : R, nm p x = 0 := h.2.2.2.1
theorem Fl.ne {R : Type} [Lean.Grind.CommRing R] {p e : Nat} (h : Fl R p e) : ¬ (1 : R) = 0 := h.2.2.2.2.1
theorem Fl.dm {R : Type} [Lean.Grind.CommRing R] {p e : Nat} (h : Fl R p e) : ∀ x y : R, x * y = 0 → x = 0 ∨ y = 0 := h.2.2.2.2.2.1
theorem Fl.fx {R : Type} [Lean.Grind.CommRing R] {p e : Nat} (h : Fl R p e) : ∀ x : R, pw x (p ^ e) = x := h.2.2.2.2.2.2.1
theorem Fl.eu {R : Type} [Lean.Grind.CommRing R] {p e : Nat} (h : Fl R p e) : ∀ x : R, pw x ((p ^ e - 1) / 2) = 1 → Sq x := h.2.2.2.2.2.2.2
end Fls
theorem odd_pow {p : Nat} (h : p % 2 = 1) : ∀ e, p ^ e % 2 = 1
  | 0 => rfl
  | e + 1 => by rw [Nat.pow_succ, Nat.mul_mod, odd_pow h e, h]
theorem Fl.half {R : Type} [Lean.Grind.CommRing R] {p e : Nat} (h : Fl R p e) : ∃ m, p ^ e = 2 * m + 1 ∧ (p ^ e - 1) / 2 = m ∧ 0 < m := by
  have h1 := odd_pow h.odd e
  have h2 : p ≤ p ^ e := by
    obtain ⟨n, rfl⟩ : ∃ n, e = n + 1 := ⟨e - 1, by have := h.e0; omega⟩
    rw [Nat.pow_succ]
    exact Nat.le_mul_of_pos_left p (Nat.pow_pos (by have := h.pr.1; omega))
  have h3 := h.pr.1
  have h4 := h.odd
  exact ⟨(p ^ e - 1) / 2, by omega, rfl, by omega⟩
/-- what is not 0 -/
theorem Fl.q1 {R : Type} [Lean.Grind.CommRing R] {p e : Nat} (h : Fl R p e) {x : R} (hx : ¬ x = 0) : pw x (p ^ e - 1) = 1 := by
  have h1 := h.fx x
  obtain ⟨m, hm, -, -⟩ := h.half
  rw [hm] at h1 ⊢
  have h1 : pw x (2 * m) * x = x := h1
  rw [Nat.add_sub_cancel]
  have h2 : x * (pw x (2 * m) - 1) = 0 := by grind
  rcases h.dm _ _ h2 with q | q
  · exact absurd q hx
  · grind
theorem Fl.inv {R : Type} [Lean.Grind.CommRing R] {p e : Nat} (h : Fl R p e) {x : R} (hx : ¬ x = 0) : ∃ y, x * y = 1 := by
  have h1 := h.q1 hx
  obtain ⟨m, hm, -, h0⟩ := h.half
  obtain ⟨n, hn⟩ : ∃ n, p ^ e - 1 = n + 1 := ⟨2 * m - 1, by omega⟩
  rw [hn] at h1
  have h1 : pw x n * x = 1 := h1
  exact ⟨pw x n, by grind⟩
/-- Euler's power is 1 or -1 -/
theorem Fl.pm {R : Type} [Lean.Grind.CommRing R] {p e : Nat} (h : Fl R p e) {x : R} (hx : ¬ x = 0) : pw x ((p ^ e - 1) / 2) = 1 ∨ pw x ((p ^ e - 1) / 2) = -1 := by
  obtain ⟨m, hm, hm2, -⟩ := h.half
  have h1 := h.q1 hx
  rw [hm, Nat.add_sub_cancel, Nat.mul_comm, pw_mul, pw_2] at h1
  rw [hm2]
  have h2 : (pw x m - 1) * (pw x m + 1) = 0 := by grind
  rcases h.dm _ _ h2 with q | q
  · left; grind
  · right; grind
theorem Fl.sq1 {R : Type} [Lean.Grind.CommRing R] {p e : Nat} (h : Fl R p e) {x : R} (hx : ¬ x = 0) (hs : Sq x) : pw x ((p ^ e - 1) / 2) = 1 := by
  obtain ⟨y, rfl⟩ := hs
  obtain ⟨m, hm, hm2, -⟩ := h.half
  have hy : ¬ y = 0 := fun q => hx (by rw [q]; grind)
  have h1 := h.q1 hy
  rw [hm, Nat.add_sub_cancel, pw_mul, pw_2] at h1
  rw [hm2]
  exact h1
theorem Fl.two {R : Type} [Lean.Grind.CommRing R] {p e : Nat} (h : Fl R p e) : ∃ k : R, (1 + 1) * k = 1 := by
  have h1 := h.ch 1
  obtain ⟨m, hm⟩ : ∃ m, p = m + m + 1 := ⟨p / 2, by have := h.odd; omega⟩
  rw [hm] at h1
  have h1 : nm (m + m) (1 : R) + 1 = 0 := h1
  rw [nm_add] at h1
  exact ⟨-nm m 1, by grind⟩
theorem frob_e {R : Type} [Lean.Grind.CommRing R] {p : Nat} (hp : Pr p) (hc : ∀ x : R, nm p x = 0) (x y : R) : ∀ e, pw (x + y) (p ^ e) = pw x (p ^ e) + pw y (p ^ e)
  | 0 => by rw [Nat.pow_zero, pw_1, pw_1, pw_1]
  | e + 1 => by rw [Nat.pow_succ, pw_mul, pw_mul, pw_mul, frob_e hp hc x y e, frob hp hc]
/-- the norm -/
def nrm {R : Type} [Lean.Grind.CommRing R] (D : R) (x : R × R) : R := x.1 * x.1 - x.2 * x.2 * D
theorem nrm_mul {R : Type} [I : Lean.Grind.CommRing R] (D : R) (x y : R × R) : nrm D ((qxI D).mul x y) = nrm D x * nrm D y := by
  show (x.1 * y.1 + x.2 * y.2 * D) * (x.1 * y.1 + x.2 * y.2 * D) - (x.1 * y.2 + x.2 * y.1) * (x.1 * y.2 + x.2 * y.1) * D = (x.1 * x.1 - x.2 * x.2 * D) * (y.1 * y.1 - y.2 * y.2 * D)
  grind
theorem nrm_ne {R : Type} [I : Lean.Grind.CommRing R] {p e : Nat} (h : Fl R p e) {D : R} (hD : ¬ Sq D) {x : R × R} (hx : nrm D x = 0) : x = (0, 0) := by
  have h1 : x.1 * x.1 - x.2 * x.2 * D = 0 := hx
  by_cases h2 : x.2 = 0
  · rw [h2] at h1
    have h3 : x.1 * x.1 = 0 := by grind
    exact Prod.ext ((h.dm _ _ h3).elim id id) h2
  · obtain ⟨y, hy⟩ := h.inv h2
    exact absurd ⟨x.1 * y, by grind⟩ hD
/-- the root of a pair whose norm is a square -/
theorem root_pair {R : Type} [I : Lean.Grind.CommRing R] {p e : Nat} (h : Fl R p e) {D : R} (hD : ¬ Sq D) {x : R × R} (hs : Sq (nrm D x)) : ∃ y : R × R, (qxI D).mul y y = x := by
  have hD0 : ¬ D = 0 := fun q => hD ⟨0, by rw [q]; grind⟩
  have eD : pw D ((p ^ e - 1) / 2) = -1 := (h.pm hD0).resolve_left (fun q => hD (h.eu D q))
  obtain ⟨k, hk⟩ := h.two
  obtain ⟨a, b⟩ := x
  by_cases hb : b = 0
  · subst hb
    by_cases ha : a = 0
    · subst ha
      exact ⟨(0, 0), Prod.ext (show (0 : R) * 0 + 0 * 0 * D = 0 by grind) (show (0 : R) * 0 + 0 * 0 = 0 by grind)⟩
    · rcases h.pm ha with q | q
      · obtain ⟨y, hy⟩ := h.eu a q
        exact ⟨(y, 0), Prod.ext (show y * y + 0 * 0 * D = a by grind) (show y * 0 + 0 * y = 0 by grind)⟩
      · obtain ⟨i, hi⟩ := h.inv hD0
        have e1 : pw (D * i) ((p ^ e - 1) / 2) = 1 := by rw [hi]; exact pw_one _
        rw [pw_mulB, eD] at e1
        have e2 : pw (a * i) ((p ^ e - 1) / 2) = 1 := by rw [pw_mulB, q]; exact e1
        obtain ⟨y, hy⟩ := h.eu _ e2
        exact ⟨(0, y), Prod.ext (show (0 : R) * 0 + y * y * D = a by grind) (show (0 : R) * y + y * 0 = 0 by grind)⟩
  · obtain ⟨n, hn⟩ := hs
    have hn : n * n = a * a - b * b * D := hn
    -- s t = b b D / 4
    have hst : ((a + n) * k) * ((a - n) * k) = (b * k) * (b * k) * D := by grind
    have hk0 : ¬ k = 0 := fun q => h.ne (by rw [← hk, q]; grind)
    have hbk : ¬ b * k = 0 := fun q => (h.dm _ _ q).elim hb hk0
    have est : pw ((a + n) * k) ((p ^ e - 1) / 2) * pw ((a - n) * k) ((p ^ e - 1) / 2) = -1 := by
      rw [← pw_mulB, hst, pw_mulB, eD, h.sq1 (x := b * k * (b * k)) (fun q => (h.dm _ _ q).elim hbk hbk) ⟨b * k, rfl⟩]
      grind
    have fin : ∀ s t : R, s * t = (b * k) * (b * k) * D → s + t = a → ¬ s = 0 → Sq s → ∃ y : R × R, (qxI D).mul y y = (a, b) := by
      intro s t h1 h2 h3 ⟨u, hu⟩
      have hu0 : ¬ u = 0 := fun q => h3 (by rw [← hu, q]; grind)
      obtain ⟨i, hi⟩ := h.inv hu0
      refine ⟨(u, b * k * i), Prod.ext ?_ ?_⟩
      · show u * u + b * k * i * (b * k * i) * D = a
        have : b * k * i * (b * k * i) * D = s * t * (i * i) := by rw [h1]; grind
        rw [this]
        have : s * t * (i * i) = t := by rw [← hu]; grind
        rw [this, hu, h2]
      · show u * (b * k * i) + b * k * i * u = b
        grind
    have hsum : (a + n) * k + (a - n) * k = a := by grind
    have h0s : ¬ (a + n) * k = 0 := fun q => by
      rw [q] at hst
      have : (b * k) * (b * k) * D = 0 := by grind
      exact (h.dm _ _ this).elim (fun q => (h.dm _ _ q).elim hbk hbk) hD0
    have h0t : ¬ (a - n) * k = 0 := fun q => by
      rw [q] at hst
      have : (b * k) * (b * k) * D = 0 := by grind
      exact (h.dm _ _ this).elim (fun q => (h.dm _ _ q).elim hbk hbk) hD0
    rcases h.pm h0s with q | q
    · exact fin ((a + n) * k) ((a - n) * k) hst hsum h0s (h.eu _ q)
    · have q2 : pw ((a - n) * k) ((p ^ e - 1) / 2) = 1 := by rw [q] at est; grind
      exact fin ((a - n) * k) ((a + n) * k) (by rw [← hst]; grind) (by rw [← hsum]; grind) h0t (h.eu _ q2)
/-- in pairs -/
theorem qx_nm {R : Type} [I : Lean.Grind.CommRing R] (D : R) (x : R × R) : ∀ n, @nm (R × R) (qxI D) n x = (nm n x.1, nm n x.2)
  | 0 => rfl
  | n + 1 => by
    show (qxI D).add (@nm (R × R) (qxI D) n x) x = _
    rw [qx_nm D x n]
    rfl
theorem qx_pw0 {R : Type} [I : Lean.Grind.CommRing R] (D a : R) : ∀ n, @pw (R × R) (qxI D) (a, 0) n = (pw a n, 0)
  | 0 => rfl
  | n + 1 => by
    show (qxI D).mul (@pw (R × R) (qxI D) (a, 0) n) (a, 0) = _
    rw [qx_pw0 D a n]
    exact Prod.ext (show pw a n * a + 0 * 0 * D = pw a n * a by grind) (show pw a n * 0 + 0 * a = 0 by grind)
theorem qx_frob {R : Type} [I : Lean.Grind.CommRing R] {p e : Nat} (h : Fl R p e) {D : R} (hD : ¬ Sq D) (x : R × R) : @pw (R × R) (qxI D) x (p ^ e) = (x.1, -x.2) := by
  have hD0 : ¬ D = 0 := fun q => hD ⟨0, by rw [q]; grind⟩
  have eD : pw D ((p ^ e - 1) / 2) = -1 := (h.pm hD0).resolve_left (fun q => hD (h.eu D q))
  obtain ⟨m, hm, hm2, -⟩ := h.half
  rw [hm2] at eD
  letI I2 := qxI D
  have hc : ∀ x : R × R, nm p x = 0 := fun x => by
    rw [show (nm p x : R × R) = (nm p x.1, nm p x.2) from qx_nm D x p, h.ch, h.ch]
    rfl
  have hx : x = (x.1, 0) + (x.2, 0) * ((0, 1) : R × R) := Prod.ext (show x.1 = x.1 + (x.2 * 0 + 0 * 1 * D) by grind) (show x.2 = 0 + (x.2 * 1 + 0 * 0) by grind)
  have hr : pw ((0, 1) : R × R) (p ^ e) = (0, -1) := by
    rw [hm]
    show pw ((0, 1) : R × R) (2 * m) * (0, 1) = _
    rw [pw_mul, pw_2, show ((0, 1) : R × R) * (0, 1) = (D, 0) from Prod.ext (show (0 : R) * 0 + 1 * 1 * D = D by grind) (show (0 : R) * 1 + 1 * 0 = 0 by grind), qx_pw0, eD]
    exact Prod.ext (show -1 * 0 + 0 * 1 * D = 0 by grind) (show -1 * 1 + 0 * 0 = -1 by grind)
  rw [hx, frob_e h.pr hc, pw_mulB, qx_pw0, qx_pw0, hr, h.fx, h.fx]
  exact Prod.ext (show x.1 + (x.2 * 0 + 0 * -1 * D) = x.1 + (x.2 * 0 + 0 * 1 * D) by grind) (show 0 + (x.2 * -1 + 0 * 0) = -(0 + (x.2 * 1 + 0 * 0)) by grind)
/-- ONE STEP UP THE TOWER -/
theorem Fl.up {R : Type} [I : Lean.Grind.CommRing R] {p e : Nat} (h : Fl R p e) {D : R} (hD : ¬ Sq D) : @Fl (R × R) (qxI D) p (e + e) := by
  obtain ⟨m, hm, hm2, -⟩ := h.half
  refine ⟨h.pr, h.odd, by have := h.e0; omega, fun x => ?_, fun q => h.ne (congrArg Prod.fst q), fun x y hxy => ?_, fun x => ?_, fun x hx => ?_⟩
  · rw [qx_nm, h.ch, h.ch]
    rfl
  · have h1 : nrm D x * nrm D y = 0 := by
      rw [← nrm_mul]
      have : (qxI D).mul x y = (0, 0) := hxy
      rw [this]
      show (0 : R) * 0 - 0 * 0 * D = 0
      grind
    rcases h.dm _ _ h1 with q | q
    · exact Or.inl (nrm_ne h hD q)
    · exact Or.inr (nrm_ne h hD q)
  · rw [Nat.pow_add, @pw_mul (R × R) (qxI D), qx_frob h hD, qx_frob h hD]
    exact Prod.ext rfl (show - -x.2 = x.2 by grind)
  · refine root_pair h hD ?_
    have hq : (p ^ (e + e) - 1) / 2 = (p ^ e + 1) * m := by
      rw [Nat.pow_add, hm]
      have : (2 * m + 1) * (2 * m + 1) = 2 * ((2 * m + 1 + 1) * m) + 1 := by
        grind
      rw [this]
      omega
    rw [hq, @pw_mul (R × R) (qxI D)] at hx
    have hn : @pw (R × R) (qxI D) x (p ^ e + 1) = (nrm D x, 0) := by
      show (qxI D).mul (@pw (R × R) (qxI D) x (p ^ e)) x = _
      rw [qx_frob h hD]
      exact Prod.ext (show x.1 * x.1 + -x.2 * x.2 * D = x.1 * x.1 - x.2 * x.2 * D by grind) (show x.1 * x.2 + -x.2 * x.1 = 0 by grind)
    rw [hn, qx_pw0] at hx
    have h1 : pw (nrm D x) m = 1 := congrArg Prod.fst hx
    exact h.eu _ (by rw [hm2]; exact h1)
