/-! class and model, side by side -/
def RelP (M : Me) (I : Nat → Nat → Int32) (o o2 p : Nat) [NeZero p] (D : Nat → Nat → Nat) (h n : Nat) (kd : Nat → Nat) (tl : Nat → Nat → Int32) (V : Nat → Nat → Nat → Nat) (g : Nat → Nat) (rm : Nat) : Prop := (CtM M o o2 ∧ FcM M ∧ MoM M 475) ∧ CR I o p D h n kd tl V g ∧ MR I 475 p D h n kd tl V g ∧ AS p D h n kd tl V g ∧ Tb0 I (o2 + 1) ∧ (I 8 4 = nI rm ∧ I 475 21 = nI rm ∧ rm ≤ 12) ∧ I 8 5 = I 475 2 ∧ mN M = 484 ∧ mS M ≤ 7302249
def Rel (M : Me) (I : Nat → Nat → Int32) : Prop := ∃ (o o2 p : Nat) (_ : NeZero p) (D : Nat → Nat → Nat) (h n : Nat) (kd : Nat → Nat) (tl : Nat → Nat → Int32) (V : Nat → Nat → Nat → Nat) (g : Nat → Nat) (rm : Nat), RelP M I o o2 p D h n kd tl V g rm
section Re9
variable {K : Ka} {d o o2 p h n rm : Nat} {M : Me} {I I1 I2 : Nat → Nat → Int32} {J : Nat → Nat → Int64} {D : Nat → Nat → Nat} {kd : Nat → Nat} {tl : Nat → Nat → Int32} {V : Nat → Nat → Nat → Nat} {g : Nat → Nat} {s t u : Int32}
theorem CtM.oo (h : CtM M o o2) : (o = 37 ∧ o2 = 256) ∨ (o = 256 ∧ o2 = 37) := h.2.2.2.2.2
theorem MR.ge [NeZero p] (hR : MR I 475 p D h n kd tl V g) (hf : FrK I I1) : MR I1 475 p D h n kd tl V g := by
  obtain ⟨mA, mT, mS, mV, mB⟩ := hR
  have e : ∀ q, 475 ≤ q → I1 q = I q := hf
  refine ⟨mA.keep (by rw [e 475 (by omega)]) (by rw [e 475 (by omega)]) (e _ (by omega)) (e _ (by omega)), ⟨by rw [e 475 (by omega)]; exact mT.1, mT.2.1, fun s hs => by rw [e _ (by omega)]; exact mT.2.2 s hs⟩, fun t ht => ?_, fun s hs i hi => ⟨fun j hj => ?_, (mV s hs i hi).2⟩, fun q hq => ?_⟩
  · rw [e _ (by omega), e _ (by omega), e _ (by omega), e _ (by omega), e _ (by omega)]
    exact mS t ht
  · rw [e _ (by omega)]
    exact (mV s hs i hi).1 j hj
  · rw [e _ (by omega)]
    exact mB q hq
theorem CR.lt [NeZero p] (hoo : o + 219 ≤ 475) (hR : CR I o p D h n kd tl V g) (hf : ∀ a, a < 475 → I1 a = I a) : CR I1 o p D h n kd tl V g := by
  obtain ⟨⟨s1, s2, s3⟩, hTw, hv, hg⟩ := hR
  refine ⟨⟨by rw [hf 9 (by omega)]; exact s1, s2, fun t ht => ?_⟩, hTw.keep (fun a h1 h2 => hf a (by omega)), hv.keep (fun q h1 h2 => hf q (by omega)), fun t ht => by rw [hf _ (by omega)]; exact hg t ht⟩
  rw [hf 10 (by omega), hf 11 (by omega)]
  exact s3 t ht
theorem Tb0.cg {T : Nat} (hT : Tb0 I T) (hf : I1 (T + 5) = I (T + 5)) : Tb0 I1 T := fun i j hi hj hc => by rw [hf]; exact hT i j hi hj hc
theorem QfC.k (h : CtM M o o2) (hf : QfC I I1 o) : FrK I I1 := fun a ha => by
  rcases h.oo with ⟨rfl, rfl⟩ | ⟨rfl, rfl⟩ <;> exact hf a (by omega) (by omega) (by omega) (by omega)
theorem QfM.l (hf : QfM I I1 475) : ∀ a, a < 475 → I1 a = I a := fun a ha => hf a (by omega) (by omega)
theorem QfC.of (hf : ∀ a, a ≠ o + 217 → a ≠ o + 218 → I1 a = I a) : QfC I I1 o := fun a _ h2 h3 _ => hf a h2 h3
/-- behind a question -/
theorem RelP.q [NeZero p] (hR : RelP M I o o2 p D h n kd tl V g rm) (h1 : QfC I I1 o) (h2 : QfM I1 I2 475) : Rel M I2 := by
  obtain ⟨⟨hC, hF, hM⟩, cR, mR9, hA, hT, ⟨i4, i21, hrm⟩, i5, hN, hS⟩ := hR
  have hk := h1.k hC
  have hoo := hC.oo
  have e8 : I2 8 = I 8 := (h2.l 8 (by decide)).trans (h1 8 (by omega) (by omega) (by omega) (by omega))
  have e475 : I2 475 = I 475 := (h2 475 (by decide) (by decide)).trans (hk 475 (by decide))
  have eT : I2 (o2 + 1 + 5) = I (o2 + 1 + 5) := by
    rw [h2.l _ (by omega)]
    rcases hoo with ⟨rfl, rfl⟩ | ⟨rfl, rfl⟩ <;> exact h1 _ (by omega) (by omega) (by omega) (by omega)
  exact ⟨o, o2, p, inferInstance, D, h, n, kd, tl, V, g, rm, ⟨hC, hF, hM⟩, (cR.fr (by omega) h1).lt (by omega) h2.l, (mR9.ge hk).fr h2, hA, hT.cg eT, ⟨by rw [e8]; exact i4, by rw [e475]; exact i21, hrm⟩, by rw [e8, e475]; exact i5, hN, hS⟩
theorem QfC.rfl' : QfC I I o := fun _ _ _ _ _ => rfl
theorem QfM.rfl' : QfM I I 475 := fun _ _ _ => rfl
end Re9
/-- the locals of the law's loop -/
abbrev Lw (i : Nat) : Lf := lk [(0, .ref 4), (1, .ref 8), (2, .ref 475), (3, .int (nI i))]
section Lo
variable {K : Ka} {i : Nat} {M : Me} {I : Nat → Nat → Int32} {J : Nat → Nat → Int64} {post : Option Value → Me → Prop}
theorem L_why (hR : Rel M I) (fin : ∀ M I J, Rel M I → Rf K 30 mc_168 431 (Lw i) [] (St M I J) post) : Rf K 30 mc_168 39 (Lw i) [] (St M I J) post := by
  obtain ⟨o, o2, p, iz, D, h, n, kd, tl, V, g, rm, hR⟩ := hR
  have hR' := hR
  obtain ⟨⟨hC, hF, hM⟩, cR, mR9, hA, hT, hrm, i5, hN, hS⟩ := hR
  refine Rf.go 100 [431] ?_
  refine c_why (d := 0) hC (by decide) ?_
  refine m_why (d := 0) hM (by decide) ?_
  exact And.intro (fun _ => Rf.weak [(0, .ref 4), (1, .ref 8), (2, .ref 475), (3, .int (nI i))] ⟨rfl, rfl, rfl, rfl, trivial⟩ (fin M I J (hR'.q QfC.rfl' QfM.rfl'))) (fun q => absurd (decide_eq_true i5) q)
theorem L_thing (hK : Kst K) (ib : ∀ c : Int, 0 ≤ c → c < 5 → inb (nI i + Int32.ofInt c) (K 4).1 = true) (hR : Rel M I) (fin : ∀ M I J, Rel M I → Rf K 30 mc_168 431 (Lw i) [] (St M I J) post) : Rf K 30 mc_168 100 (Lw i) [] (St M I J) post := by
  obtain ⟨o, o2, p, iz, D, h, n, kd, tl, V, g, rm, hR⟩ := hR
  have hR' := hR
  obtain ⟨⟨hC, hF, hM⟩, cR, mR9, hA, hT, hrm, i5, hN, hS⟩ := hR
  refine Rf.go 100 [431] ?_
  refine Or.inl ⟨by decide, ib 1 (by decide) (by decide), ?_⟩
  refine Or.inl ⟨by decide, ib 2 (by decide) (by decide), ?_⟩
  refine c_thing (d := 0) hK hC cR hA (by decide) ?_
  refine Or.inl ⟨by decide, ib 1 (by decide) (by decide), ?_⟩
  refine Or.inl ⟨by decide, ib 2 (by decide) (by decide), ?_⟩
  refine m_thing (d := 0) hM mR9 hA (by decide) ?_
  exact And.intro (fun _ => Rf.weak [(0, .ref 4), (1, .ref 8), (2, .ref 475), (3, .int (nI i))] ⟨rfl, rfl, rfl, rfl, trivial⟩ (fin M I J (hR'.q QfC.rfl' QfM.rfl'))) (fun q => absurd (decide_eq_true rfl) q)
theorem L_on (hK : Kst K) (ib : ∀ c : Int, 0 ≤ c → c < 5 → inb (nI i + Int32.ofInt c) (K 4).1 = true) (hR : Rel M I) (fin : ∀ M I J, Rel M I → Rf K 30 mc_168 431 (Lw i) [] (St M I J) post) : Rf K 30 mc_168 218 (Lw i) [] (St M I J) post := by
  obtain ⟨o, o2, p, iz, D, h, n, kd, tl, V, g, rm, hR⟩ := hR
  have hR' := hR
  obtain ⟨⟨hC, hF, hM⟩, cR, mR9, hA, hT, hrm, i5, hN, hS⟩ := hR
  refine Rf.go 100 [431] ?_
  refine Or.inl ⟨by decide, ib 1 (by decide) (by decide), ?_⟩
  refine Or.inl ⟨by decide, ib 2 (by decide) (by decide), ?_⟩
  refine c_on (d := 0) hK hC cR (by decide) (fun I1 J1 hf => ?_)
  refine Or.inl ⟨by decide, ib 1 (by decide) (by decide), ?_⟩
  refine Or.inl ⟨by decide, ib 2 (by decide) (by decide), ?_⟩
  refine m_on (d := 0) hM (mR9.ge ((QfC.of hf).k hC)) (by decide) (fun I2 J2 hf2 => ?_)
  exact And.intro (fun _ => Rf.weak [(0, .ref 4), (1, .ref 8), (2, .ref 475), (3, .int (nI i))] ⟨rfl, rfl, rfl, rfl, trivial⟩ (fin M I2 J2 (hR'.q (QfC.of hf) hf2))) (fun q => absurd (decide_eq_true rfl) q)
end Lo
