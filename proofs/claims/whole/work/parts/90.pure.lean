/-! the pure law holds -/
theorem Kx_st (L : Nat) (xs : Nat → Int32) : Kst (Kx L xs) := by
  have h0 : ∀ c, c < 8 → (kst.getD 0 []).getD c 0 = nI (spn c) := by decide
  have h1 : ∀ c, c < 14 → (kst.getD 1 []).getD c 0 = nI (srt c) := by decide
  have h2 : ∀ c, c < 4 → (kst.getD 2 []).getD c 0 = nI (szs c) := by decide
  have h3 : ∀ c, c < 42 → (kst.getD 3 []).getD c 0 = nI (tls c) := by decide
  exact ⟨⟨rfl, h0⟩, ⟨rfl, h1⟩, ⟨rfl, h2⟩, rfl, h3⟩
theorem pure_ok : PureOk := by
  intro L xs hL
  obtain ⟨f, r, MF, hg, h1, h2, h3⟩ := L_law (K := Kx L xs) (L := L) (Kx_st L xs) rfl hL _ (lf0_in 0 [.ref 4])
  subst h1
  exact ⟨f, 30, MF, hg, h2, h3, by decide⟩
