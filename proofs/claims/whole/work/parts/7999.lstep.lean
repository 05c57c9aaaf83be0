/-! the law's step, back, prime -/
theorem cmp_self (x : Int32) : cmpI .eq x x = true := decide_eq_true rfl
section Lq
variable {K : Ka} {i o o2 p h n rm : Nat} {M : Me} {I I1 I2 : Nat → Nat → Int32} {J : Nat → Nat → Int64} {D : Nat → Nat → Nat} {kd : Nat → Nat} {tl : Nat → Nat → Int32} {V : Nat → Nat → Nat → Nat} {g : Nat → Nat} {post : Option Value → Me → Prop}
theorem RelP.mv [NeZero p] {D' : Nat → Nat → Nat} {h' n' : Nat} {kd' : Nat → Nat} {tl' : Nat → Nat → Int32} {V' : Nat → Nat → Nat → Nat} {g' : Nat → Nat} (hR : RelP M I o o2 p D h n kd tl V g rm) (cR1 : CR I1 o p D' h' n' kd' tl' V' g') (fK : FrK I I1) (e8 : I1 8 = I 8) (eo : ∀ q, o2 ≤ q → q < o2 + 219 → I1 q = I q) (mR2 : MR I2 475 p D' h' n' kd' tl' V' g') (fL : FrL I1 I2 475) (hA' : AS p D' h' n' kd' tl' V' g') : Rel M I2 := by
  obtain ⟨⟨hC, hF, hM⟩, cR, mR9, hA, hT, ⟨i4, i21, hrm⟩, i5, hN, hS⟩ := hR
  have hoo := hC.oo
  have f8 : I2 8 = I 8 := (fL.1 8 (by decide)).trans e8
  exact ⟨o, o2, p, inferInstance, D', h', n', kd', tl', V', g', rm, ⟨hC, hF, hM⟩, cR1.lt (by omega) fL.1, mR2, hA', hT.cg (by rw [fL.1 _ (by omega)]; exact eo _ (by omega) (by omega)), ⟨by rw [f8]; exact i4, by rw [fL.2.2, fK 475 (by decide)]; exact i21, hrm⟩, by rw [f8, fL.2.1, fK 475 (by decide)]; exact i5, hN, hS⟩
theorem kEq {z : Int32} {k k' : Nat} (hk : k < 14) (hk' : k' < 14) (h1 : z = nI k) (h2 : z = nI k') : k' = k := (nI_eq (by omega) (by omega)).mp (h2.symm.trans h1)
set_option maxHeartbeats 2000000 in
theorem L_step (hK : Kst K) (ib : ∀ c : Int, 0 ≤ c → c < 5 → inb (nI i + Int32.ofInt c) (K 4).1 = true) (hR : Rel M I) (fin : ∀ M I J, Rel M I → Rf K 30 mc_168 431 (Lw i) [] (St M I J) post) : Rf K 30 mc_168 46 (Lw i) [] (St M I J) post := by
  obtain ⟨o, o2, p, iz, D, h, n, kd, tl, V, g, rm, hR⟩ := hR
  have hR' := hR
  obtain ⟨⟨hC, hF, hM⟩, cR, mR9, hA, hT, hrm, i5, hN, hS⟩ := hR
  have n6 := cR.1.2.1
  refine Rf.go 100 [431] ?_
  refine Or.inl ⟨by decide, ib 1 (by decide) (by decide), ?_⟩
  refine Or.inl ⟨by decide, ib 2 (by decide) (by decide), ?_⟩
  refine Or.inl ⟨by decide, ib 3 (by decide) (by decide), ?_⟩
  refine Or.inl ⟨by decide, ib 4 (by decide) (by decide), ?_⟩
  refine c_step (d := 0) hK hC cR hA (by decide) (fun hno => ?_) (fun k hk hz hag hn => ?_) (fun k hk hz hag hn hne I1 J1 cR1 fK e8 eo => ?_) (fun k hk hz hag hn h0 I1 J1 cR1 fK e8 eo => ?_)
  · refine Or.inl ⟨by decide, ib 1 (by decide) (by decide), ?_⟩
    refine Or.inl ⟨by decide, ib 2 (by decide) (by decide), ?_⟩
    refine Or.inl ⟨by decide, ib 3 (by decide) (by decide), ?_⟩
    refine Or.inl ⟨by decide, ib 4 (by decide) (by decide), ?_⟩
    refine m_step (d := 0) hM mR9 hA (by decide) (fun _ => ?_) (fun k hk hz hag _ => absurd ⟨k, hk, hz, hag⟩ hno) (fun k hk hz hag _ => absurd ⟨k, hk, hz, hag⟩ hno) (fun k hk hz hag _ => absurd ⟨k, hk, hz, hag⟩ hno)
    exact And.intro (fun _ => Rf.weak [(0, .ref 4), (1, .ref 8), (2, .ref 475), (3, .int (nI i))] ⟨rfl, rfl, rfl, rfl, trivial⟩ (fin M I J (hR'.q QfC.rfl' QfM.rfl'))) (fun q => absurd (cmp_self _) q)
  · refine Or.inl ⟨by decide, ib 1 (by decide) (by decide), ?_⟩
    refine Or.inl ⟨by decide, ib 2 (by decide) (by decide), ?_⟩
    refine Or.inl ⟨by decide, ib 3 (by decide) (by decide), ?_⟩
    refine Or.inl ⟨by decide, ib 4 (by decide) (by decide), ?_⟩
    refine m_step (d := 0) hM mR9 hA (by decide) (fun hno => absurd ⟨k, hk, hz, hag⟩ hno) (fun _ _ _ _ _ => ?_) (fun _ _ _ _ hn2 => absurd hn2 (by omega)) (fun _ _ _ _ hn2 => absurd hn2 (by omega))
    exact And.intro (fun _ => Rf.weak [(0, .ref 4), (1, .ref 8), (2, .ref 475), (3, .int (nI i))] ⟨rfl, rfl, rfl, rfl, trivial⟩ (fin M I J (hR'.q QfC.rfl' QfM.rfl'))) (fun q => absurd (cmp_self _) q)
  · refine Or.inl ⟨by decide, ib 1 (by decide) (by decide), ?_⟩
    refine Or.inl ⟨by decide, ib 2 (by decide) (by decide), ?_⟩
    refine Or.inl ⟨by decide, ib 3 (by decide) (by decide), ?_⟩
    refine Or.inl ⟨by decide, ib 4 (by decide) (by decide), ?_⟩
    refine m_step (d := 0) hM (mR9.ge fK) hA (by decide) (fun hno => absurd ⟨k, hk, hz, hag⟩ hno) (fun _ _ _ _ hn2 => absurd hn2 (by omega)) (fun k' hk' hz' hag' _ hne' I2 J2 mR2 fL => ?_) (fun k' hk' hz' hag' _ h0' => ?_)
    · have e := kEq hk hk' hz hz'
      subst e
      exact And.intro (fun _ => Rf.weak [(0, .ref 4), (1, .ref 8), (2, .ref 475), (3, .int (nI i))] ⟨rfl, rfl, rfl, rfl, trivial⟩ (fin M I2 J2 (hR'.mv cR1 fK e8 eo mR2 fL hA))) (fun q => absurd (cmp_self _) q)
    · have e := kEq hk hk' hz hz'
      subst e
      exact absurd h0' hne
  · refine Or.inl ⟨by decide, ib 1 (by decide) (by decide), ?_⟩
    refine Or.inl ⟨by decide, ib 2 (by decide) (by decide), ?_⟩
    refine Or.inl ⟨by decide, ib 3 (by decide) (by decide), ?_⟩
    refine Or.inl ⟨by decide, ib 4 (by decide) (by decide), ?_⟩
    refine m_step (d := 0) hM (mR9.ge fK) hA (by decide) (fun hno => absurd ⟨k, hk, hz, hag⟩ hno) (fun _ _ _ _ hn2 => absurd hn2 (by omega)) (fun k' hk' hz' hag' _ hne' => ?_) (fun k' hk' hz' hag' _ h0' I2 J2 mR2 fL => ?_)
    · have e := kEq hk hk' hz hz'
      subst e
      exact absurd h0 hne'
    · have e := kEq hk hk' hz hz'
      subst e
      have hTw := cR.2.1
      have hA' := AS.up hTw.2.2.2.2.1 hTw.2.2.2.2.2 hTw.1.2.2.2.1.1 hTw.2.2.2.1 hk hA (agJ_told n6 hk hag) h0
      exact And.intro (fun _ => Rf.weak [(0, .ref 4), (1, .ref 8), (2, .ref 475), (3, .int (nI i))] ⟨rfl, rfl, rfl, rfl, trivial⟩ (fin M I2 J2 (hR'.mv cR1 fK e8 eo mR2 fL hA'))) (fun q => absurd (cmp_self _) q)
theorem L_back (hR : Rel M I) (fin : ∀ M I J, Rel M I → Rf K 30 mc_168 431 (Lw i) [] (St M I J) post) : Rf K 30 mc_168 93 (Lw i) [] (St M I J) post := by
  obtain ⟨o, o2, p, iz, D, h, n, kd, tl, V, g, rm, hR⟩ := hR
  have hR' := hR
  obtain ⟨⟨hC, hF, hM⟩, cR, mR9, hA, hT, hrm, i5, hN, hS⟩ := hR
  refine Rf.go 100 [431] ?_
  refine c_back (d := 0) hC cR hA (by decide) (fun hn => ?_) (fun n1 hn I1 J1 cR1 fK e8 eo => ?_)
  · refine m_back (d := 0) hM mR9 hA (by decide) (fun _ => ?_) (fun n2 hn2 => absurd hn2 (by omega))
    exact And.intro (fun _ => Rf.weak [(0, .ref 4), (1, .ref 8), (2, .ref 475), (3, .int (nI i))] ⟨rfl, rfl, rfl, rfl, trivial⟩ (fin M I J (hR'.q QfC.rfl' QfM.rfl'))) (fun q => absurd (cmp_self _) q)
  · refine m_back (d := 0) hM (mR9.ge fK) hA (by decide) (fun hn2 => absurd hn2 (by omega)) (fun n2 hn2 I2 J2 mR2 fL => ?_)
    have e : n2 = n1 := by omega
    subst e
    subst hn
    exact And.intro (fun _ => Rf.weak [(0, .ref 4), (1, .ref 8), (2, .ref 475), (3, .int (nI i))] ⟨rfl, rfl, rfl, rfl, trivial⟩ (fin M I2 J2 (hR'.mv cR1 fK e8 eo mR2 fL hA.down))) (fun q => absurd (cmp_self _) q)
theorem firstT {P : Nat → Prop} {t t' : Nat} (h1 : ∀ s, s < t → P s) (h2 : ¬ P t) (h3 : ∀ s, s < t' → P s) (h4 : ¬ P t') : t' = t := by
  apply Classical.byContradiction
  intro w
  rcases Nat.lt_or_gt_of_ne w with q | q
  · exact h4 (h1 _ q)
  · exact h2 (h3 _ q)
set_option maxHeartbeats 2000000 in
theorem L_prime (hK : Kst K) (ib : ∀ c : Int, 0 ≤ c → c < 5 → inb (nI i + Int32.ofInt c) (K 4).1 = true) (hR : Rel M I) (fin : ∀ M I J, Rel M I → Rf K 30 mc_168 431 (Lw i) [] (St M I J) post) : Rf K 30 mc_168 22 (Lw i) [] (St M I J) post := by
  obtain ⟨o, o2, p, iz, D, h, n, kd, tl, V, g, rm, hR⟩ := hR
  have hR' := hR
  obtain ⟨⟨hC, hF, hM⟩, cR, mR9, hA, hT, ⟨i4, i21, hrm⟩, i5, hN, hS⟩ := hR
  have hoo := hC.oo
  refine Rf.go 100 [431] ?_
  refine Or.inl ⟨by decide, ib 1 (by decide) (by decide), ?_⟩
  refine c_prime (d := 0) hK hC cR hA hT i4 hrm (by decide) (fun hno => ?_) (fun hyes h12 => ?_) (fun q iq h3 hq hx hodd hpr hr t ht hs hne I1 J1 cR1 tb1 i41 i51 fK => ?_) (fun q iq h3 hq hx hodd hpr hr hs I1 J1 cR1 hA1 tb1 i41 i51 fK => ?_)
  · refine Or.inl ⟨by decide, ib 1 (by decide) (by decide), ?_⟩
    refine m_prime (d := 0) hM mR9 hA i21 hrm (by decide) (fun _ => ?_) (fun hy => absurd hy hno) (fun q iq h3 hq hx hodd hpr => absurd ⟨q, h3, hq, hx, hodd, hpr⟩ hno) (fun q iq h3 hq hx hodd hpr => absurd ⟨q, h3, hq, hx, hodd, hpr⟩ hno)
    exact And.intro (fun _ => Rf.weak [(0, .ref 4), (1, .ref 8), (2, .ref 475), (3, .int (nI i))] ⟨rfl, rfl, rfl, rfl, trivial⟩ (fin M I J (hR'.q QfC.rfl' QfM.rfl'))) (fun q => absurd (cmp_self _) q)
  · refine Or.inl ⟨by decide, ib 1 (by decide) (by decide), ?_⟩
    refine m_prime (d := 0) hM mR9 hA i21 hrm (by decide) (fun hno => absurd hyes hno) (fun _ _ => ?_) (fun q iq _ _ _ _ _ hr => absurd hr (by omega)) (fun q iq _ _ _ _ _ hr => absurd hr (by omega))
    exact And.intro (fun _ => Rf.weak [(0, .ref 4), (1, .ref 8), (2, .ref 475), (3, .int (nI i))] ⟨rfl, rfl, rfl, rfl, trivial⟩ (fin M I J (hR'.q QfC.rfl' QfM.rfl'))) (fun q => absurd (cmp_self _) q)
  · refine Or.inl ⟨by decide, ib 1 (by decide) (by decide), ?_⟩
    refine m_prime (d := 0) hM (mR9.ge fK) hA (by rw [fK 475 (by decide)]; exact i21) hrm (by decide) (fun hno => absurd ⟨q, h3, hq, hx, hodd, hpr⟩ hno) (fun _ h12 => absurd h12 (by omega)) (fun q' iq' h3' hq' hx' hodd' hpr' _ t' ht' hs' hne' I2 J2 mR2 i22 i212 fL => ?_) (fun q' iq' h3' hq' hx' hodd' hpr' _ hs' => ?_)
    · have e : q' = q := (nI_eq (by omega) (by omega)).mp (hx'.symm.trans hx)
      subst e
      have et : t' = t := firstT hs hne hs' hne'
      subst et
      have hRel : Rel M I2 := ⟨o, o2, p, iz, D, h, n, kd, tl, V, g, rm + 1, ⟨hC, hF, hM⟩, cR1.lt (by omega) fL, mR2, hA, tb1.cg (fL _ (by omega)), ⟨by rw [fL 8 (by decide)]; exact i41, i212, by omega⟩, by rw [fL 8 (by decide), i51, i22], hN, hS⟩
      exact And.intro (fun _ => Rf.weak [(0, .ref 4), (1, .ref 8), (2, .ref 475), (3, .int (nI i))] ⟨rfl, rfl, rfl, rfl, trivial⟩ (fin M I2 J2 hRel)) (fun q => absurd (cmp_self _) q)
    · have e : q' = q := (nI_eq (by omega) (by omega)).mp (hx'.symm.trans hx)
      subst e
      exact absurd (hs' t ht) hne
  · refine Or.inl ⟨by decide, ib 1 (by decide) (by decide), ?_⟩
    have hM2 : MoM (swp M o o2) 475 := hM
    have hF2 : FcM (swp M o o2) := hF
    refine m_prime (d := 0) hM2 (mR9.ge fK) hA (by rw [fK 475 (by decide)]; exact i21) hrm (by decide) (fun hno => absurd ⟨q, h3, hq, hx, hodd, hpr⟩ hno) (fun _ h12 => absurd h12 (by omega)) (fun q' iq' h3' hq' hx' hodd' hpr' _ t' ht' hs' hne' => ?_) (fun q' iq' h3' hq' hx' hodd' hpr' _ hs' I2 J2 mR2 i22 i212 fL => ?_)
    · have e : q' = q := (nI_eq (by omega) (by omega)).mp (hx'.symm.trans hx)
      subst e
      exact absurd (hs t' ht') hne'
    · have e : q' = q := (nI_eq (by omega) (by omega)).mp (hx'.symm.trans hx)
      subst e
      have hRel : Rel (swp M o o2) I2 := ⟨o2, o, q', iq, (rmS q' kd tl n).1, (rmS q' kd tl n).2.1, n, kd, tl, (rmS q' kd tl n).2.2.1, (rmS q' kd tl n).2.2.2, rm + 1, ⟨hC.swap, hF2, hM2⟩, cR1.lt (by omega) fL, mR2, hA1, tb1.cg (fL _ (by omega)), ⟨by rw [fL 8 (by decide)]; exact i41, i212, by omega⟩, by rw [fL 8 (by decide), i51, i22, fK 475 (by decide)]; exact i5, hN, hS⟩
      exact And.intro (fun _ => Rf.weak [(0, .ref 4), (1, .ref 8), (2, .ref 475), (3, .int (nI i))] ⟨rfl, rfl, rfl, rfl, trivial⟩ (fin (swp M o o2) I2 J2 hRel)) (fun q => absurd (cmp_self _) q)
end Lq
