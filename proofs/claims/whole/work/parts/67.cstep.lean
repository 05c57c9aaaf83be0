/-! The state of both; CompassTowers.step, CompassTowers.back -/
def ufn {α : Type} (f : Nat → α) (n : Nat) (v : α) : Nat → α := fun t => if t = n then v else f t
theorem ufn_e {α : Type} {f : Nat → α} {n : Nat} {v : α} : ufn f n v n = v := if_pos rfl
theorem ufn_n {α : Type} {f : Nat → α} {n t : Nat} {v : α} (h : t ≠ n) : ufn f n v t = f t := if_neg h
def hsm (g : Nat → Nat) : Nat → Nat
  | 0 => 0
  | t + 1 => hsm g t + g t
def StI (I : Nat → Nat → Int32) (n : Nat) (kd : Nat → Nat) (tl : Nat → Nat → Int32) : Prop := I 9 0 = nI n ∧ n ≤ 60 ∧ ∀ t, t < n → (I 10 t = nI (kd t) ∧ kd t < 14) ∧ ∀ i, i < 3 → I 11 (3 * t + i) = tl t i
def CtM (M : Me) (o o2 : Nat) : Prop := isC M 8 4 = true ∧ (mR M 8 0 = some 9 ∧ mR M 8 1 = some 12 ∧ mR M 8 2 = some o ∧ mR M 8 3 = some o2) ∧ StM M 9 ∧ HsM M o ∧ HsM M o2 ∧ (o = 37 ∧ o2 = 256 ∨ o = 256 ∧ o2 = 37)
/-- the class's numbers -/
def CR (I : Nat → Nat → Int32) (o p : Nat) [NeZero p] (D : Nat → Nat → Nat) (h n : Nat) (kd : Nat → Nat) (tl : Nat → Nat → Int32) (V : Nat → Nat → Nat → Nat) (g : Nat → Nat) : Prop := StI I n kd tl ∧ TwA I (o + 1) p h D ∧ HV I o p h n (fun s => srt (kd s)) V ∧ ∀ t, t < n → I (o + 209) t = nI (g t)
def clp (x : Int32) : Nat := x.toNatClampNeg
/-- what a step was told is what it may be told -/
def Told (kd : Nat → Nat) (t k : Nat) (a b c : Int32) : Prop := (k ≠ 0 → a = nI (clp a)) ∧ (k ≠ 0 → k ≠ 5 → b = nI (clp b)) ∧ (k = 9 ∨ k = 12 → c = nI (clp c)) ∧ Ag (fun s => srt (kd s)) t k (clp a) (clp b) (clp c)
/-- the steps' makings, over one prime -/
def AS (p : Nat) [NeZero p] (D : Nat → Nat → Nat) (h n : Nat) (kd : Nat → Nat) (tl : Nat → Nat → Int32) (V : Nat → Nat → Nat → Nat) (g : Nat → Nat) : Prop := (∀ t, t < n → kd t < 14 ∧ Told kd t (kd t) (tl t 0) (tl t 1) (tl t 2)) ∧ (∀ t, t < n → srt (kd t) = 2 → LnOk (V t 0) (V t 1)) ∧ (∀ t, t < n → g t ≤ 1) ∧ h = hsm g n ∧ (∀ t, t < n → ∀ i, vOk p (hsm g (t + 1)) (V t i)) ∧ ∀ i, i < h → vOk p i (D i)
theorem isT_c {n : Nat} {kd : Nat → Nat} {x : Int32} {s : Nat} (hn : n ≤ 60) (h : isT n kd x s) : x = nI (clp x) ∧ clp x < n ∧ srt (kd (clp x)) = s := by
  obtain ⟨t, h1, rfl, h3⟩ := h
  have e : clp (nI t) = t := nI_clamp (by omega)
  rw [e]
  exact ⟨rfl, h1, h3⟩
theorem inL_c {x : Int32} {hi : Nat} (hh : hi < 2 ^ 31) (h : inL x hi) : x = nI (clp x) ∧ clp x < hi := by
  obtain ⟨t, h1, rfl⟩ := h
  have e : clp (nI t) = t := nI_clamp (by omega)
  rw [e]
  exact ⟨rfl, h1⟩
theorem agJ_told {n k : Nat} {kd : Nat → Nat} {a b c : Int32} (hn : n ≤ 60) (hk : k < 14) (h : AgJ n kd k a b c) : Told kd n k a (tld k 1 b) (tld k 2 c) := by
  rcases (show k = 0 ∨ k = 1 ∨ k = 2 ∨ k = 3 ∨ k = 4 ∨ k = 5 ∨ k = 6 ∨ k = 7 ∨ k = 8 ∨ k = 9 ∨ k = 10 ∨ k = 11 ∨ k = 12 ∨ k = 13 by omega) with rfl | rfl | rfl | rfl | rfl | rfl | rfl | rfl | rfl | rfl | rfl | rfl | rfl | rfl
  · exact ⟨fun q => absurd rfl q, fun q => absurd rfl q, fun q => absurd q (by decide), Or.inl rfl⟩
  · obtain ⟨h1, h2⟩ := h
    have e1 := isT_c hn h1
    have e2 := isT_c hn h2
    exact ⟨fun _ => e1.1, fun _ _ => e2.1, fun q => absurd q (by decide), Or.inr (Or.inl ⟨by decide, e1.2, e2.2⟩)⟩
  · obtain ⟨h1, h2⟩ := h
    have e1 := isT_c hn h1
    have e2 := isT_c hn h2
    exact ⟨fun _ => e1.1, fun _ _ => e2.1, fun q => absurd q (by decide), Or.inr (Or.inl ⟨by decide, e1.2, e2.2⟩)⟩
  · obtain ⟨h1, h2⟩ := h
    have e1 := isT_c hn h1
    have e2 := isT_c hn h2
    exact ⟨fun _ => e1.1, fun _ _ => e2.1, fun q => absurd q (by decide), Or.inr (Or.inl ⟨by decide, e1.2, e2.2⟩)⟩
  · obtain ⟨h1, h2⟩ := h
    have e1 := isT_c hn h1
    have e2 := isT_c hn h2
    exact ⟨fun _ => e1.1, fun _ _ => e2.1, fun q => absurd q (by decide), Or.inr (Or.inl ⟨by decide, e1.2, e2.2⟩)⟩
  · have e1 := isT_c hn h
    exact ⟨fun _ => e1.1, fun _ q => absurd rfl q, fun q => absurd q (by decide), Or.inr (Or.inr (Or.inl ⟨rfl, e1.2⟩))⟩
  · obtain ⟨h1, h2⟩ := h
    have e1 := isT_c hn h1
    have e2 := isT_c hn h2
    exact ⟨fun _ => e1.1, fun _ _ => e2.1, fun q => absurd q (by decide), Or.inr (Or.inl ⟨by decide, e1.2, e2.2⟩)⟩
  · obtain ⟨h1, h2⟩ := h
    have e1 := isT_c hn h1
    have e2 := isT_c hn h2
    exact ⟨fun _ => e1.1, fun _ _ => e2.1, fun q => absurd q (by decide), Or.inr (Or.inr (Or.inr (Or.inl ⟨by decide, e1.2, e2.2⟩)))⟩
  · obtain ⟨h1, h2⟩ := h
    have e1 := isT_c hn h1
    have e2 := isT_c hn h2
    exact ⟨fun _ => e1.1, fun _ _ => e2.1, fun q => absurd q (by decide), Or.inr (Or.inr (Or.inr (Or.inl ⟨by decide, e1.2, e2.2⟩)))⟩
  · obtain ⟨h1, h2, h3⟩ := h
    have e1 := isT_c hn h1
    have e2 := isT_c hn h2
    have e3 := isT_c hn h3
    exact ⟨fun _ => e1.1, fun _ _ => e2.1, fun _ => e3.1, Or.inr (Or.inr (Or.inr (Or.inr (Or.inl ⟨rfl, e1.2, e2.2, e3.2⟩))))⟩
  · obtain ⟨h1, h2⟩ := h
    have e1 := isT_c hn h1
    have e2 := isT_c hn h2
    exact ⟨fun _ => e1.1, fun _ _ => e2.1, fun q => absurd q (by decide), Or.inr (Or.inr (Or.inr (Or.inr (Or.inr (Or.inl ⟨by decide, e1.2, e2.2⟩)))))⟩
  · obtain ⟨h1, h2⟩ := h
    have e1 := isT_c hn h1
    have e2 := isT_c hn h2
    exact ⟨fun _ => e1.1, fun _ _ => e2.1, fun q => absurd q (by decide), Or.inr (Or.inr (Or.inr (Or.inr (Or.inr (Or.inl ⟨by decide, e1.2, e2.2⟩)))))⟩
  · obtain ⟨h1, h2, h3⟩ := h
    have e1 : a = nI (clp a) ∧ clp a < n ∧ (srt (kd (clp a)) = 2 ∨ srt (kd (clp a)) = 3) := h1.elim (fun q => ⟨(isT_c hn q).1, (isT_c hn q).2.1, Or.inl (isT_c hn q).2.2⟩) (fun q => ⟨(isT_c hn q).1, (isT_c hn q).2.1, Or.inr (isT_c hn q).2.2⟩)
    have e2 : b = nI (clp b) ∧ clp b < n ∧ (srt (kd (clp b)) = 2 ∨ srt (kd (clp b)) = 3) := h2.elim (fun q => ⟨(isT_c hn q).1, (isT_c hn q).2.1, Or.inl (isT_c hn q).2.2⟩) (fun q => ⟨(isT_c hn q).1, (isT_c hn q).2.1, Or.inr (isT_c hn q).2.2⟩)
    have e3 := inL_c (by decide) h3
    exact ⟨fun _ => e1.1, fun _ _ => e2.1, fun _ => e3.1, Or.inr (Or.inr (Or.inr (Or.inr (Or.inr (Or.inr (Or.inl ⟨rfl, e1.2, e2.2, e3.2⟩))))))⟩
  · have e : a = nI (clp a) ∧ (clp a < n ∧ (srt (kd (clp a)) = 1 ∨ srt (kd (clp a)) = 2 ∨ srt (kd (clp a)) = 3)) ∧ b = nI (clp b) ∧ clp b < szs (srt (kd (clp a))) := by
      rcases h with ⟨h1, h2⟩ | ⟨h1 | h1, h2⟩
      · have e1 := isT_c hn h1
        have e2 := inL_c (by decide) h2
        exact ⟨e1.1, ⟨e1.2.1, Or.inl e1.2.2⟩, e2.1, by rw [e1.2.2]; exact e2.2⟩
      · have e1 := isT_c hn h1
        have e2 := inL_c (by decide) h2
        exact ⟨e1.1, ⟨e1.2.1, Or.inr (Or.inl e1.2.2)⟩, e2.1, by rw [e1.2.2]; exact e2.2⟩
      · have e1 := isT_c hn h1
        have e2 := inL_c (by decide) h2
        exact ⟨e1.1, ⟨e1.2.1, Or.inr (Or.inr e1.2.2)⟩, e2.1, by rw [e1.2.2]; exact e2.2⟩
    exact ⟨fun _ => e.1, fun _ _ => e.2.2.1, fun q => absurd q (by decide), Or.inr (Or.inr (Or.inr (Or.inr (Or.inr (Or.inr (Or.inr ⟨rfl, e.2.1, e.2.2.2⟩))))))⟩
/-- what a step told so makes -/
noncomputable def stF (p : Nat) [NeZero p] (D : Nat → Nat → Nat) (h : Nat) (V : Nat → Nat → Nat → Nat) (kd : Nat → Nat) (k : Nat) (a b c : Int32) : Rz := mkF p D h V (fun s => srt (kd s)) k a (clp a) (clp b) (clp c)
def t3 (a b c : Int32) : Nat → Int32 := fun i => if i = 0 then a else if i = 1 then b else c
section Cs
variable {K : Ka} {d o o2 p h n k : Nat} {M : Me} {I : Nat → Nat → Int32} {J : Nat → Nat → Int64} {D : Nat → Nat → Nat} {kd : Nat → Nat} {tl : Nat → Nat → Int32} {V : Nat → Nat → Nat → Nat} {g : Nat → Nat} {a b c z : Int32}
theorem hsm_c {g g' : Nat → Nat} : ∀ {n : Nat}, (∀ t, t < n → g t = g' t) → hsm g n = hsm g' n
  | 0, _ => rfl
  | n + 1, h => by
    show hsm g n + g n = hsm g' n + g' n
    rw [hsm_c (fun t ht => h t (by omega)), h n (by omega)]
theorem Told.cg {t : Nat} {kd' : Nat → Nat} (he : ∀ s, s < t → kd s = kd' s) (h : Told kd t k a b c) : Told kd' t k a b c := by
  obtain ⟨h1, h2, h3, h4⟩ := h
  refine ⟨h1, h2, h3, ?_⟩
  have e : ∀ s, s < t → srt (kd' s) = srt (kd s) := fun s hs => by rw [he s hs]
  rcases h4 with q | ⟨q, ⟨a1, a2⟩, b1, b2⟩ | ⟨q, a1, a2⟩ | ⟨q, ⟨a1, a2⟩, b1, b2⟩ | ⟨q, ⟨a1, a2⟩, ⟨b1, b2⟩, c1, c2⟩ | ⟨q, ⟨a1, a2⟩, b1, b2⟩ | ⟨q, ⟨a1, a2⟩, ⟨b1, b2⟩, c1⟩ | ⟨q, ⟨a1, a2⟩, b1⟩
  · exact Or.inl q
  · exact Or.inr (Or.inl ⟨q, ⟨a1, (e _ a1).trans a2⟩, b1, (e _ b1).trans b2⟩)
  · exact Or.inr (Or.inr (Or.inl ⟨q, a1, (e _ a1).trans a2⟩))
  · exact Or.inr (Or.inr (Or.inr (Or.inl ⟨q, ⟨a1, (e _ a1).trans a2⟩, b1, (e _ b1).trans b2⟩)))
  · exact Or.inr (Or.inr (Or.inr (Or.inr (Or.inl ⟨q, ⟨a1, (e _ a1).trans a2⟩, ⟨b1, (e _ b1).trans b2⟩, c1, (e _ c1).trans c2⟩))))
  · exact Or.inr (Or.inr (Or.inr (Or.inr (Or.inr (Or.inl ⟨q, ⟨a1, (e _ a1).trans a2⟩, b1, (e _ b1).trans b2⟩)))))
  · refine Or.inr (Or.inr (Or.inr (Or.inr (Or.inr (Or.inr (Or.inl ⟨q, ⟨a1, ?_⟩, ⟨b1, ?_⟩, c1⟩))))))
    · show srt (kd' _) = 2 ∨ srt (kd' _) = 3
      rw [e _ a1]; exact a2
    · show srt (kd' _) = 2 ∨ srt (kd' _) = 3
      rw [e _ b1]; exact b2
  · refine Or.inr (Or.inr (Or.inr (Or.inr (Or.inr (Or.inr (Or.inr ⟨q, ⟨a1, ?_⟩, ?_⟩))))))
    · show srt (kd' _) = 1 ∨ srt (kd' _) = 2 ∨ srt (kd' _) = 3
      rw [e _ a1]; exact a2
    · show _ < szs (srt (kd' _))
      rw [e _ a1]; exact b1
/-- one more step that stands -/
theorem AS.up [NeZero p] (hp : Pr p) (hodd : p % 2 = 1) (h3 : 3 ≤ p) (hD : tOk p D h) (hk : k < 14) (hA : AS p D h n kd tl V g) (hT : Told kd n k a b c) (h0 : (stF p D h V kd k a b c).1 = Int32.ofInt 0) : AS p (stF p D h V kd k a b c).2.1 (stF p D h V kd k a b c).2.2.1 (n + 1) (ufn kd n k) (ufn tl n (t3 a b c)) (ufn V n (stF p D h V kd k a b c).2.2.2) (ufn g n ((stF p D h V kd k a b c).2.2.1 - h)) := by
  obtain ⟨a1, a2, a3, a4, a5, a6⟩ := hA
  have hR : RzOk p D h (szs (srt k)) (stF p D h V kd k a b c) := mkF_ok hT.2.2.2
  have hl := fun hs => mkF_ln (V := V) (z := a) hp hodd h3 hD hT.2.2.2 a2 hs h0
  have hln : srt k = 2 → LnOk ((stF p D h V kd k a b c).2.2.2 0) ((stF p D h V kd k a b c).2.2.2 1) := hl
  generalize stF p D h V kd k a b c = R at hR hln
  have ek : ∀ t, t < n → kd t = ufn kd n k t := fun t ht => (ufn_n (by omega)).symm
  have eg : ∀ t, t < n → g t = ufn g n (R.2.2.1 - h) t := fun t ht => (ufn_n (by omega)).symm
  have hh : hsm (ufn g n (R.2.2.1 - h)) n = h := by rw [← hsm_c eg]; exact a4.symm
  have hh2 : h ≤ R.2.2.1 ∧ R.2.2.1 - h ≤ 1 := by
    rcases hR.2.2 with q | q
    · omega
    · omega
  have hh1 : hsm (ufn g n (R.2.2.1 - h)) (n + 1) = R.2.2.1 := by
    show hsm (ufn g n (R.2.2.1 - h)) n + ufn g n (R.2.2.1 - h) n = _
    rw [hh, ufn_e]
    omega
  refine ⟨fun t ht => ?_, fun t ht => ?_, fun t ht => ?_, hh1.symm, fun t ht i => ?_, fun i hi => ?_⟩
  · by_cases e : t = n
    · subst e
      rw [ufn_e, ufn_e]
      exact ⟨hk, hT.cg ek⟩
    · rw [ufn_n e, ufn_n e]
      exact ⟨(a1 t (by omega)).1, (a1 t (by omega)).2.cg (fun s hs => ek s (by omega))⟩
  · by_cases e : t = n
    · subst e
      rw [ufn_e, ufn_e]
      exact hln
    · rw [ufn_n e, ufn_n e]
      exact a2 t (by omega)
  · by_cases e : t = n
    · subst e
      rw [ufn_e]
      exact hh2.2
    · rw [ufn_n e]
      exact a3 t (by omega)
  · by_cases e : t = n
    · subst e
      rw [ufn_e, hh1]
      exact hR.1 i
    · rw [ufn_n e, ← hsm_c (g := g) (fun s hs => eg s (by omega))]
      exact a5 t (by omega) i
  · rcases hR.2.2 with q | ⟨-, -, q2, v, hv, q3⟩
    · rw [q.2]
      exact a6 i (by omega)
    · rw [q3]
      by_cases e : i = h
      · rw [e, gD_eq]
        exact hv
      · rw [gD_lt (by omega)]
        exact a6 i (by omega)
end Cs
