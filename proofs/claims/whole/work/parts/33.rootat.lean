/-! Tower.setResidue, Tower.rootAt -/
def TwB (I : Nat → Nat → Int32) (T p h : Nat) [NeZero p] (D : Nat → Nat → Nat) : Prop := ∀ i, i < h → Re I p D i (T + 2 + i) (oV p D i (D i))
/-- all numbers of a tower -/
def TwA (I : Nat → Nat → Int32) (T p h : Nat) [NeZero p] (D : Nat → Nat → Nat) : Prop := TwI I T p h D ∧ TwF I T p ∧ TwB I T p h D ∧ tOk p D h ∧ Pr p ∧ p % 2 = 1
theorem TwA.keep {I I1 : Nat → Nat → Int32} {T p h : Nat} [NeZero p] {D : Nat → Nat → Nat} (hA : TwA I T p h D) (hf : ∀ a, T ≤ a → a < T + 6 → I1 a = I a) : TwA I1 T p h D := by
  obtain ⟨a, b, c, d⟩ := hA
  have h3 := a.2.2.1
  exact ⟨a.keep (hf T (by omega) (by omega)) (hf (T + 5) (by omega) (by omega)), b.keep (hf T (by omega) (by omega)), fun i hi => (c i hi).keep (hf _ (by omega) (by omega)), d⟩
theorem rw8_put {I : Nat → Nat → Int32} {a : Nat} {f : Nat → Int32} {v : Int32} : u2 (rw8 I a 8 f) a 0 v = rw8 I a 8 (fun j => if j = 0 then v else f j) := by
  funext b
  unfold u2 rw8
  by_cases e : b = a
  · subst e
    simp only [if_true]
    funext j
    unfold va_up
    by_cases h1 : j = 0
    · subst h1; rw [if_pos rfl, if_pos (by decide), if_pos rfl]
    · rw [if_neg h1, if_neg h1]
  · rw [if_neg e, if_neg e, if_neg e]
section RA
theorem root_hi1 {R : Type} [I : Lean.Grind.CommRing R] {p e : Nat} (h : Fl R p e) {D a b y S : R} (hD : ¬ Sq D) (hb : ¬ b = 0) (hy : y * y = a * a - b * b * D) (hS : S + S = a + y) : ¬ S = 0 ∧ ¬ a - S = 0 ∧ (Sq S ∨ Sq (a - S)) ∧ (1 + 1) * (1 + 1) * (S * (a - S)) = b * b * D := by
  have hD0 : ¬ D = 0 := fun q => hD ⟨0, by rw [q]; grind⟩
  have eD : pw D ((p ^ e - 1) / 2) = -1 := (h.pm hD0).resolve_left (fun q => hD (h.eu D q))
  obtain ⟨k, hk⟩ := h.two
  have hk0 : ¬ k = 0 := fun q => h.ne (by rw [← hk, q]; grind)
  have hbk : ¬ b * k = 0 := fun q => (h.dm _ _ q).elim hb hk0
  have e4 : (1 + 1) * (1 + 1) * (S * (a - S)) = b * b * D := by grind
  have hst : S * (a - S) = (b * k) * (b * k) * D := by
    have : k * k * ((1 + 1) * (1 + 1) * (S * (a - S))) = k * k * (b * b * D) := by rw [e4]
    grind
  have hne : ¬ S * (a - S) = 0 := fun q => by
    rw [q] at hst
    exact (h.dm _ _ hst.symm).elim (fun q => (h.dm _ _ q).elim hbk hbk) hD0
  have h0s : ¬ S = 0 := fun q => hne (by rw [q]; grind)
  have h0t : ¬ a - S = 0 := fun q => hne (by rw [q]; grind)
  have est : pw S ((p ^ e - 1) / 2) * pw (a - S) ((p ^ e - 1) / 2) = -1 := by
    rw [← pw_mulB, hst, pw_mulB, eD, h.sq1 (x := b * k * (b * k)) (fun q => (h.dm _ _ q).elim hbk hbk) ⟨b * k, rfl⟩]
    grind
  refine ⟨h0s, h0t, ?_, e4⟩
  rcases h.pm h0s with q | q
  · exact Or.inl (h.eu _ q)
  · refine Or.inr (h.eu _ ?_)
    rw [q] at est
    grind
theorem root_hi2 {R : Type} [I : Lean.Grind.CommRing R] {D a b s u z : R} (hs : ¬ s = 0) (he : (1 + 1) * (1 + 1) * (s * (a - s)) = b * b * D) (hu : u * u = s) (hz : IsInv (u + u) z) (h2 : u + u = 0 → u = 0) : (qxI D).mul (u, b * z) (u, b * z) = (a, b) := by
  have hu0 : ¬ u + u = 0 := fun q => hs (by rw [← hu, h2 q]; grind)
  have hz := hz.2 hu0
  refine Prod.ext ?_ ?_
  · show u * u + b * z * (b * z) * D = a
    have e1 : b * z * (b * z) * D = b * b * D * (z * z) := by grind
    rw [e1, ← he, ← hu]
    have e2 : (u + u) * z * ((u + u) * z) = 1 := by rw [hz]; grind
    grind
  · show u * (b * z) + b * z * u = b
    grind
theorem Fl.dbl {R : Type} [I : Lean.Grind.CommRing R] {p e : Nat} (h : Fl R p e) {u : R} (hu : u + u = 0) : u = 0 := h.neg0 (by grind)
theorem root_lo {R : Type} [I : Lean.Grind.CommRing R] {p e : Nat} (h : Fl R p e) {D a z : R} (hD : ¬ Sq D) (ha : ¬ Sq a) (hz : IsInv D z) : Sq (a * z) ∧ a * z * D = a := by
  have hD0 : ¬ D = 0 := fun q => hD ⟨0, by rw [q]; grind⟩
  have ha0 : ¬ a = 0 := fun q => ha ⟨0, by rw [q]; grind⟩
  have hz := hz.2 hD0
  have eD : pw D ((p ^ e - 1) / 2) = -1 := (h.pm hD0).resolve_left (fun q => hD (h.eu D q))
  have ea : pw a ((p ^ e - 1) / 2) = -1 := (h.pm ha0).resolve_left (fun q => ha (h.eu a q))
  have e1 : pw (D * z) ((p ^ e - 1) / 2) = 1 := by rw [hz]; exact pw_one _
  rw [pw_mulB, eD] at e1
  refine ⟨h.eu _ ?_, ?_⟩
  · rw [pw_mulB, ea]
    exact e1
  · grind
theorem nm_half {R : Type} [I : Lean.Grind.CommRing R] {p : Nat} (hc : ∀ x : R, nm p x = 0) (ho : p % 2 = 1) (x : R) : nm ((p + 1) / 2) x + nm ((p + 1) / 2) x = x := by
  rw [← nm_add, show (p + 1) / 2 + (p + 1) / 2 = p + 1 by omega]
  show nm p x + x = x
  rw [hc]
  grind
theorem nm_two {R : Type} [I : Lean.Grind.CommRing R] (x : R) : nm 2 x = x + x := by
  show 0 + x + x = x + x
  grind
variable {K : Ka} {d T x y out p h : Nat} {M : Me} {I : Nat → Nat → Int32} {J : Nat → Nat → Int64} {D : Nat → Nat → Nat}
theorem e_setRes {k : Nat} {z : Int32} [NeZero p] (hT : TwM M T) (hI : TwI I T p h D) (hTo : T ≠ out) (ho : rc M out) : Wr K (d + 2) 46 [.ref T, .int z, .ref out] M I J (rwE I p D k out (@nm (TR p D k) (TI p D k) (rs z p) ((TI p D k).ofNat 1).ofNat)) := by
  have hpb := hI.2.2.2.1
  refine Ok.go (e := me_46) rfl rfl (Nat.le_of_ble_eq_true rfl) hT.1 ?_
  refine Rf.go 100 [] ?_
  refine (t_unit hT.1 ho).up (Nat.le_refl _) ?_
  rintro r M1 ⟨rfl, rfl⟩
  have hTe : ∀ f, rw8 I out 8 f T 0 = nI p := fun f => by rw [rw8_ne hTo]; exact hI.1
  refine And.intro hT.1 ?_
  refine And.intro ⟨?_, Nat.le_of_ble_eq_true rfl⟩ ?_
  · show ¬ rw8 I out 8 _ T 0 = 0
    rw [hTe]
    exact nI_ne0 (by omega) (by omega)
  refine And.intro ⟨ho.1, rc_in (i := 0) ho (by decide)⟩ ?_
  refine ⟨rfl, rfl, J, ?_⟩
  show St M (u2 (rw8 I out 8 _) out 0 (if (z ^^^ rw8 I out 8 _ T 0) < 0 ∧ ¬ (z - z / rw8 I out 8 _ T 0 * rw8 I out 8 _ T 0) = 0 then (z - z / rw8 I out 8 _ T 0 * rw8 I out 8 _ T 0) + rw8 I out 8 _ T 0 else (z - z / rw8 I out 8 _ T 0 * rw8 I out 8 _ T 0))) J = _
  rw [hTe, i_fmod z (by omega) (by omega), rw8_put]
  unfold rwE
  congr 1
  refine rw8_congr (fun j hj => ?_)
  rw [tV_nm, tV_one (by omega)]
  by_cases e : j = 0
  · rw [if_pos e, if_pos e, Nat.mul_one, Nat.mod_eq_of_lt (rs_lt (by omega))]
  · rw [if_neg e, if_neg e, Nat.mul_zero, Nat.zero_mod, if_neg (show ¬ nI j = Int32.ofInt 0 from fun q => e ((nI_eq (b := 0) (by omega) (by omega)).mp q))]
    rfl
end RA
