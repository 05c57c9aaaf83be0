/-! the state at the law's start -/
theorem ck_split : ∀ z, ckB z = true → ∃ MA M2, z = some (none, MA) ∧ mN MA = 467 ∧ pex K0 2000 6 93 [.ref 475] (Mz2 MA) = some (none, M2) ∧ ckN M2 ∧ ckH M2 37 ∧ ckH M2 256 ∧ ckI M2 37 ∧ ckI M2 256 ∧ ckC M2 ∧ ckM M2 := by
  intro z h
  unfold ckB at h
  split at h
  · next MA =>
    generalize e2 : pex K0 2000 6 93 [.ref 475] (Mz2 MA) = z2 at h
    split at h
    · next M2 =>
      have h1 := Bool.and_eq_true_iff.mp h
      have h2 := Bool.and_eq_true_iff.mp h1.2
      have h3 := Bool.and_eq_true_iff.mp h2.2
      have h4 := Bool.and_eq_true_iff.mp h3.2
      have h5 := Bool.and_eq_true_iff.mp h4.2
      have h6 := Bool.and_eq_true_iff.mp h5.2
      have h7 := Bool.and_eq_true_iff.mp h6.2
      exact ⟨MA, M2, rfl, of_decide_eq_true h1.1, e2, of_decide_eq_true h2.1, of_decide_eq_true h3.1, of_decide_eq_true h4.1, of_decide_eq_true h5.1, of_decide_eq_true h6.1, of_decide_eq_true h7.1, of_decide_eq_true h7.2⟩
    · cases h
  · cases h
theorem isC_mk {M : Me} {a t : Nat} (h1 : 8 ≤ a) (h2 : a < 8 + mN M) (h3 : (mH M a).1 = t) : isC M a t = true := by
  simp only [isC, Bool.and_eq_true, decide_eq_true_eq]
  exact ⟨h1, h2, h3⟩
theorem ckN.s {M : Me} (h : ckN M) {a : Nat} (h1 : 8 ≤ a) (h2 : a < 492) {x : Nat × Nat} (hx : shp a = x) : isC M a x.1 = true ∧ (mH M a).2 = x.2 := by
  have e := h.2.2 (a - 8) (by omega)
  rw [show a - 8 + 8 = a by omega, hx] at e
  exact ⟨isC_mk h1 (by rw [h.1]; omega) (by rw [e]), by rw [e]⟩
theorem shp_h {o b : Nat} (ho : o = 37 ∨ o = 256) (hb : b < 219) : shp (o + b) = shH b := by
  unfold shp
  rcases ho with rfl | rfl
  · rw [if_neg (by omega), if_pos (by omega), Nat.add_sub_cancel_left]
  · rw [if_neg (by omega), if_neg (by omega), if_pos (by omega), Nat.add_sub_cancel_left]
theorem shH_r {b : Nat} (h : (3 ≤ b ∧ b < 6) ∨ (8 ≤ b ∧ b < 12) ∨ (13 ≤ b ∧ b < 25) ∨ (26 ≤ b ∧ b < 209) ∨ 210 ≤ b) : shH b = (10, 8) := by
  unfold shH
  rw [if_neg (by omega), if_neg (by omega), if_neg (by omega), if_neg (by omega), if_neg (by omega), if_neg (by omega), if_neg (by omega), if_neg (by omega)]
theorem HsM_of {M : Me} {o : Nat} (ho : o = 37 ∨ o = 256) (hN : ckN M) (hH : ckH M o) : HsM M o := by
  have s : ∀ b, b < 219 → isC M (o + b) (shH b).1 = true ∧ (mH M (o + b)).2 = (shH b).2 := fun b hb => hN.s (by omega) (by omega) (shp_h ho hb)
  have r : ∀ b, b < 219 → (3 ≤ b ∧ b < 6) ∨ (8 ≤ b ∧ b < 12) ∨ (13 ≤ b ∧ b < 25) ∨ (26 ≤ b ∧ b < 209) ∨ 210 ≤ b → rc M (o + b) := fun b hb h => by
    have q := s b hb
    rw [shH_r h] at q
    exact q
  obtain ⟨a1, a2, a3, ⟨b2, b3, b4, b5, b6, b7, b8, b9⟩, a5, a6, a7⟩ := hH
  refine ⟨(s 0 (by decide)).1, a1, ⟨(s 1 (by decide)).1, ⟨b2, (s 2 (by decide)).1, (s 2 (by decide)).2, a5⟩, ⟨b3, (s 6 (by decide)).1, (s 6 (by decide)).2⟩, ⟨b4, (s 7 (by decide)).1, (s 7 (by decide)).2⟩, ⟨b5, b6, b7, b8⟩, ⟨b9, (s 12 (by decide)).1, (s 12 (by decide)).2, a6⟩, fun a ha => ?_⟩, ⟨a2, (s 25 (by decide)).1, (s 25 (by decide)).2, a7⟩, ⟨a3 0 (by decide), (s 209 (by decide)).1, (s 209 (by decide)).2⟩, ⟨a3 1 (by decide), a3 2 (by decide), a3 3 (by decide), a3 4 (by decide), a3 5 (by decide), a3 6 (by decide), a3 7 (by decide), a3 8 (by decide), a3 9 (by decide)⟩, fun a ha => ?_⟩
  · have q := r (a - o) (by omega) (by omega)
    rw [show o + (a - o) = a by omega] at q
    exact q
  · have q := r (a - o) (by omega) (by omega)
    rw [show o + (a - o) = a by omega] at q
    exact q
theorem shp_f : ∀ a, a < 37 → (14 ≤ a ∧ a ≤ 22) ∨ (24 ≤ a ∧ a ≤ 28) ∨ (30 ≤ a ∧ a ≤ 36) → shp a = (10, 8) := by decide
theorem FcM_of {M : Me} (hN : ckN M) (hC : ckC M) : FcM M := by
  obtain ⟨-, -, ⟨c0, c1, c2, c3, c4⟩, d1, d2, -⟩ := hC
  have s : ∀ a, 8 ≤ a → a < 492 → isC M a (shp a).1 = true ∧ (mH M a).2 = (shp a).2 := fun a h1 h2 => hN.s h1 h2 rfl
  exact ⟨(s 12 (by decide) (by decide)).1, ⟨c0, (s 13 (by decide) (by decide)).1, (s 13 (by decide) (by decide)).2, d1⟩, ⟨c1, (s 23 (by decide) (by decide)).1, (s 23 (by decide) (by decide)).2, fun i hi => (d2 i hi).1⟩, ⟨c2, (s 29 (by decide) (by decide)).1, (s 29 (by decide) (by decide)).2, fun i hi => (d2 i hi).2⟩, ⟨c3, c4⟩, fun a ha => hN.s (by omega) (by omega) (shp_f a (by omega) ha)⟩
theorem CtM_of {M : Me} (hN : ckN M) (h1 : ckH M 37) (h2 : ckH M 256) (hC : ckC M) : CtM M 37 256 := by
  obtain ⟨c8, ⟨e1, e2⟩, -⟩ := hC
  have s : ∀ a, 8 ≤ a → a < 492 → isC M a (shp a).1 = true ∧ (mH M a).2 = (shp a).2 := fun a h1 h2 => hN.s h1 h2 rfl
  exact ⟨(s 8 (by decide) (by decide)).1, c8, ⟨(s 9 (by decide) (by decide)).1, ⟨e1, (s 10 (by decide) (by decide)).1, (s 10 (by decide) (by decide)).2⟩, e2, (s 11 (by decide) (by decide)).1, (s 11 (by decide) (by decide)).2⟩, HsM_of (Or.inl rfl) hN h1, HsM_of (Or.inr rfl) hN h2, Or.inl ⟨rfl, rfl⟩⟩
theorem shp_m5 {a : Nat} (h : 476 ≤ a ∧ a ≤ 480) : shp a = (10, 60) := by
  rcases (show a = 476 ∨ a = 477 ∨ a = 478 ∨ a = 479 ∨ a = 480 by omega) with rfl | rfl | rfl | rfl | rfl <;> rfl
theorem shp_m9 {a : Nat} (h : 484 ≤ a ∧ a ≤ 486) : shp a = (10, 512) := by
  rcases (show a = 484 ∨ a = 485 ∨ a = 486 by omega) with rfl | rfl | rfl <;> rfl
theorem MoM_of {M : Me} (hN : ckN M) (hM : ckM M) : MoM M 475 := by
  obtain ⟨m1, m2, -⟩ := hM
  have s : ∀ a, 8 ≤ a → a < 492 → isC M a (shp a).1 = true ∧ (mH M a).2 = (shp a).2 := fun a h1 h2 => hN.s h1 h2 rfl
  refine ⟨(s 475 (by decide) (by decide)).1, fun f h4 h16 => ?_, m2, ⟨fun a ha => ?_, s 481 (by decide) (by decide), s 482 (by decide) (by decide), s 483 (by decide) (by decide), fun a ha => ?_, s 487 (by decide) (by decide)⟩, s 488 (by decide) (by decide), s 489 (by decide) (by decide), s 490 (by decide) (by decide), s 491 (by decide) (by decide)⟩
  · have q := m1 (f - 4) (by omega)
    rw [show f - 4 + 4 = f by omega] at q
    rw [q]
    congr 1
    omega
  · exact hN.s (by omega) (by omega) (shp_m5 (by omega))
  · exact hN.s (by omega) (by omega) (shp_m9 (by omega))
theorem pr_3 : Pr 3 := ⟨by decide, fun d hd => by
  have h := Nat.le_of_dvd (by decide) hd
  rcases (show d = 0 ∨ d = 1 ∨ d = 2 ∨ d = 3 by omega) with rfl | rfl | rfl | rfl
  · exact absurd hd (by decide)
  · exact Or.inl rfl
  · exact absurd hd (by decide)
  · exact Or.inr rfl⟩
theorem ckI.tb {M : Me} {o : Nat} (h : ckI M o) : Tb0 (mI M) (o + 1) := fun i j hi hj hc => h.2.2.2.2.2 i hi j hj hc
theorem ckI.tw {M : Me} {o : Nat} (h : ckI M o) (D : Nat → Nat → Nat) : TwA (mI M) (o + 1) 3 0 D := by
  refine ⟨⟨h.1, h.2.1, by decide, by decide, fun i j hi hj hc m hm => ?_⟩, ⟨0, 0, 2, h.2.2.1, h.2.2.2.1, h.2.2.2.2.1, by decide, by decide⟩, fun i hi => absurd hi (Nat.not_lt_zero i), fun i hi => absurd hi (Nat.not_lt_zero i), pr_3, by decide⟩
  have hc : i &&& j = 0 := hc.resolve_right (Nat.not_lt_zero _)
  rw [hc] at hm
  have hm : m < 1 := hm
  have h0 : m = 0 := by omega
  subst h0
  unfold uP
  rw [if_pos hc]
  exact h.2.2.2.2.2 i hi j hj hc
theorem CR_of {M : Me} (hI : ckI M 37) (hC : ckC M) (D : Nat → Nat → Nat) (kd : Nat → Nat) (tl : Nat → Nat → Int32) (V : Nat → Nat → Nat → Nat) (g : Nat → Nat) : CR (mI M) 37 3 D 0 0 kd tl V g := ⟨⟨hC.2.2.2.2.2.2.2, by decide, fun t ht => absurd ht (Nat.not_lt_zero t)⟩, hI.tw D, fun t ht => absurd ht (Nat.not_lt_zero t), fun t ht => absurd ht (Nat.not_lt_zero t)⟩
theorem MR_of {M : Me} (hM : ckM M) (D : Nat → Nat → Nat) (kd : Nat → Nat) (tl : Nat → Nat → Int32) (V : Nat → Nat → Nat → Nat) (g : Nat → Nat) : MR (mI M) 475 3 D 0 0 kd tl V g := by
  obtain ⟨-, -, ⟨i0, i1, i2, i3, i21⟩, hg, ht⟩ := hM
  refine ⟨⟨⟨i0, i1, by decide, by decide, fun i j k hi hj hk => ?_⟩, fun i hi => absurd hi (Nat.not_lt_zero i), fun i hi => absurd hi (Nat.not_lt_zero i), pr_3, by decide⟩, ⟨i3, by decide, fun t ht => absurd ht (Nat.not_lt_zero t)⟩, fun t ht => absurd ht (Nat.not_lt_zero t), fun t ht => absurd ht (Nat.not_lt_zero t), fun q hq => Or.inl (hg q hq)⟩
  have hi : i = 0 := by have : i < 1 := hi; omega
  have hj : j = 0 := by have : j < 1 := hj; omega
  subst hi hj
  have e : oV 3 D 0 (un 0) = ((TI 3 D 0).ofNat 1).ofNat := oV_one 0
  have e2 : (TI 3 D 0).mul (oV 3 D 0 (un 0)) (oV 3 D 0 (un 0)) = ((TI 3 D 0).ofNat 1).ofNat := by
    rw [e]
    exact (TI 3 D 0).mul_one _
  show mI M 484 (64 * 0 + 8 * 0 + k) = nI (tV 3 D 0 ((TI 3 D 0).mul (oV 3 D 0 (un 0)) (oV 3 D 0 (un 0))) k)
  rw [e2, tV_one (by decide), show 64 * 0 + 8 * 0 + k = k by omega, ht k hk]
  by_cases c : k = 0
  · rw [if_pos c, if_pos c]
    rfl
  · rw [if_neg c, if_neg c]
    rfl
theorem AS_of (p : Nat) [NeZero p] (D : Nat → Nat → Nat) (kd : Nat → Nat) (tl : Nat → Nat → Int32) (V : Nat → Nat → Nat → Nat) (g : Nat → Nat) : AS p D 0 0 kd tl V g := ⟨fun t ht => absurd ht (Nat.not_lt_zero t), fun t ht => absurd ht (Nat.not_lt_zero t), fun t ht => absurd ht (Nat.not_lt_zero t), rfl, fun t ht => absurd ht (Nat.not_lt_zero t), fun i hi => absurd hi (Nat.not_lt_zero i)⟩
