/-! the law's questions: printed -/
section Lp
variable {K : Ka} {i : Nat} {M : Me} {I : Nat → Nat → Int32} {J : Nat → Nat → Int64} {post : Option Value → Me → Prop}
theorem L_coord (hK : Kst K) (ib : ∀ c : Int, 0 ≤ c → c < 5 → inb (nI i + Int32.ofInt c) (K 4).1 = true) (hR : Rel M I) (fin : ∀ M I J, Rel M I → Rf K 30 mc_168 431 (Lw i) [] (St M I J) post) : Rf K 30 mc_168 127 (Lw i) [] (St M I J) post := by
  obtain ⟨o, o2, p, iz, D, h, n, kd, tl, V, g, rm, hR⟩ := hR
  have hR' := hR
  obtain ⟨⟨hC, hF, hM⟩, cR, mR9, hA, hT, hrm, i5, hN, hS⟩ := hR
  refine Rf.go 100 [431] ?_
  refine Or.inl ⟨by decide, ib 1 (by decide) (by decide), ?_⟩
  refine Or.inl ⟨by decide, ib 2 (by decide) (by decide), ?_⟩
  refine Or.inl ⟨by decide, ib 3 (by decide) (by decide), ?_⟩
  refine c_coord (d := 0) hK hC cR (by decide) ?_
  refine Or.inl ⟨by decide, ib 1 (by decide) (by decide), ?_⟩
  refine Or.inl ⟨by decide, ib 2 (by decide) (by decide), ?_⟩
  refine Or.inl ⟨by decide, ib 3 (by decide) (by decide), ?_⟩
  refine m_coord (d := 0) hM mR9 (by decide) ?_
  exact And.intro (fun _ => Rf.weak [(0, .ref 4), (1, .ref 8), (2, .ref 475), (3, .int (nI i))] ⟨rfl, rfl, rfl, rfl, trivial⟩ (fin M I J (hR'.q QfC.rfl' QfM.rfl'))) (fun q => absurd (decide_eq_true rfl) q)
theorem L_base (hK : Kst K) (ib : ∀ c : Int, 0 ≤ c → c < 5 → inb (nI i + Int32.ofInt c) (K 4).1 = true) (hR : Rel M I) (fin : ∀ M I J, Rel M I → Rf K 30 mc_168 431 (Lw i) [] (St M I J) post) : Rf K 30 mc_168 164 (Lw i) [] (St M I J) post := by
  obtain ⟨o, o2, p, iz, D, h, n, kd, tl, V, g, rm, hR⟩ := hR
  have hR' := hR
  obtain ⟨⟨hC, hF, hM⟩, cR, mR9, hA, hT, hrm, i5, hN, hS⟩ := hR
  refine Rf.go 100 [431] ?_
  refine Or.inl ⟨by decide, ib 1 (by decide) (by decide), ?_⟩
  refine Or.inl ⟨by decide, ib 2 (by decide) (by decide), ?_⟩
  refine c_base (d := 0) hC cR hA (by decide) ?_
  refine Or.inl ⟨by decide, ib 1 (by decide) (by decide), ?_⟩
  refine Or.inl ⟨by decide, ib 2 (by decide) (by decide), ?_⟩
  refine m_base (d := 0) hM mR9 hA (by decide) ?_
  exact And.intro (fun _ => Rf.weak [(0, .ref 4), (1, .ref 8), (2, .ref 475), (3, .int (nI i))] ⟨rfl, rfl, rfl, rfl, trivial⟩ (fin M I J (hR'.q QfC.rfl' QfM.rfl'))) (fun q => absurd (decide_eq_true rfl) q)
theorem L_one (hK : Kst K) (ib : ∀ c : Int, 0 ≤ c → c < 5 → inb (nI i + Int32.ofInt c) (K 4).1 = true) (hR : Rel M I) (fin : ∀ M I J, Rel M I → Rf K 30 mc_168 431 (Lw i) [] (St M I J) post) : Rf K 30 mc_168 191 (Lw i) [] (St M I J) post := by
  obtain ⟨o, o2, p, iz, D, h, n, kd, tl, V, g, rm, hR⟩ := hR
  have hR' := hR
  obtain ⟨⟨hC, hF, hM⟩, cR, mR9, hA, hT, hrm, i5, hN, hS⟩ := hR
  refine Rf.go 100 [431] ?_
  refine Or.inl ⟨by decide, ib 1 (by decide) (by decide), ?_⟩
  refine Or.inl ⟨by decide, ib 2 (by decide) (by decide), ?_⟩
  refine c_one (d := 0) hK hC cR (by decide) ?_
  refine Or.inl ⟨by decide, ib 1 (by decide) (by decide), ?_⟩
  refine Or.inl ⟨by decide, ib 2 (by decide) (by decide), ?_⟩
  refine m_one (d := 0) hM mR9 (by decide) ?_
  exact And.intro (fun _ => Rf.weak [(0, .ref 4), (1, .ref 8), (2, .ref 475), (3, .int (nI i))] ⟨rfl, rfl, rfl, rfl, trivial⟩ (fin M I J (hR'.q QfC.rfl' QfM.rfl'))) (fun q => absurd (decide_eq_true rfl) q)
theorem L_way (hK : Kst K) (ib : ∀ c : Int, 0 ≤ c → c < 5 → inb (nI i + Int32.ofInt c) (K 4).1 = true) (hR : Rel M I) (fin : ∀ M I J, Rel M I → Rf K 30 mc_168 431 (Lw i) [] (St M I J) post) : Rf K 30 mc_168 245 (Lw i) [] (St M I J) post := by
  obtain ⟨o, o2, p, iz, D, h, n, kd, tl, V, g, rm, hR⟩ := hR
  have hR' := hR
  obtain ⟨⟨hC, hF, hM⟩, cR, mR9, hA, hT, hrm, i5, hN, hS⟩ := hR
  refine Rf.go 100 [431] ?_
  refine Or.inl ⟨by decide, ib 1 (by decide) (by decide), ?_⟩
  refine Or.inl ⟨by decide, ib 2 (by decide) (by decide), ?_⟩
  refine c_way (d := 0) hK hC cR (by decide) (fun I1 J1 hf => ?_)
  refine Or.inl ⟨by decide, ib 1 (by decide) (by decide), ?_⟩
  refine Or.inl ⟨by decide, ib 2 (by decide) (by decide), ?_⟩
  refine m_way (d := 0) hM (mR9.ge ((QfC.of hf).k hC)) hA (by decide) (fun I2 J2 hf2 => ?_)
  exact And.intro (fun _ => Rf.weak [(0, .ref 4), (1, .ref 8), (2, .ref 475), (3, .int (nI i))] ⟨rfl, rfl, rfl, rfl, trivial⟩ (fin M I2 J2 (hR'.q (QfC.of hf) hf2))) (fun q => absurd (decide_eq_true rfl) q)
theorem L_square (hK : Kst K) (ib : ∀ c : Int, 0 ≤ c → c < 5 → inb (nI i + Int32.ofInt c) (K 4).1 = true) (hR : Rel M I) (fin : ∀ M I J, Rel M I → Rf K 30 mc_168 431 (Lw i) [] (St M I J) post) : Rf K 30 mc_168 272 (Lw i) [] (St M I J) post := by
  obtain ⟨o, o2, p, iz, D, h, n, kd, tl, V, g, rm, hR⟩ := hR
  have hR' := hR
  obtain ⟨⟨hC, hF, hM⟩, cR, mR9, hA, hT, hrm, i5, hN, hS⟩ := hR
  refine Rf.go 100 [431] ?_
  refine Or.inl ⟨by decide, ib 1 (by decide) (by decide), ?_⟩
  refine Or.inl ⟨by decide, ib 2 (by decide) (by decide), ?_⟩
  refine c_square (d := 0) hK hC cR (by decide) (fun I1 J1 hf => ?_)
  refine Or.inl ⟨by decide, ib 1 (by decide) (by decide), ?_⟩
  refine Or.inl ⟨by decide, ib 2 (by decide) (by decide), ?_⟩
  refine m_square (d := 0) hM (mR9.ge (hf.k hC)) (by decide) (fun I2 J2 hf2 => ?_)
  exact And.intro (fun _ => Rf.weak [(0, .ref 4), (1, .ref 8), (2, .ref 475), (3, .int (nI i))] ⟨rfl, rfl, rfl, rfl, trivial⟩ (fin M I2 J2 (hR'.q hf hf2))) (fun q => absurd (decide_eq_true rfl) q)
theorem L_degree (hK : Kst K) (ib : ∀ c : Int, 0 ≤ c → c < 5 → inb (nI i + Int32.ofInt c) (K 4).1 = true) (hR : Rel M I) (fin : ∀ M I J, Rel M I → Rf K 30 mc_168 431 (Lw i) [] (St M I J) post) : Rf K 30 mc_168 299 (Lw i) [] (St M I J) post := by
  obtain ⟨o, o2, p, iz, D, h, n, kd, tl, V, g, rm, hR⟩ := hR
  have hR' := hR
  obtain ⟨⟨hC, hF, hM⟩, cR, mR9, hA, hT, hrm, i5, hN, hS⟩ := hR
  refine Rf.go 100 [431] ?_
  refine Or.inl ⟨by decide, ib 1 (by decide) (by decide), ?_⟩
  refine c_degree (d := 0) hK hC cR (by decide) ?_
  refine Or.inl ⟨by decide, ib 1 (by decide) (by decide), ?_⟩
  refine m_degree (d := 0) hM mR9 (by decide) (fun I2 J2 hf2 => ?_)
  exact And.intro (fun _ => Rf.weak [(0, .ref 4), (1, .ref 8), (2, .ref 475), (3, .int (nI i))] ⟨rfl, rfl, rfl, rfl, trivial⟩ (fin M I2 J2 (hR'.q QfC.rfl' hf2))) (fun q => absurd (decide_eq_true rfl) q)
theorem L_coefficient (hK : Kst K) (ib : ∀ c : Int, 0 ≤ c → c < 5 → inb (nI i + Int32.ofInt c) (K 4).1 = true) (hR : Rel M I) (fin : ∀ M I J, Rel M I → Rf K 30 mc_168 431 (Lw i) [] (St M I J) post) : Rf K 30 mc_168 316 (Lw i) [] (St M I J) post := by
  obtain ⟨o, o2, p, iz, D, h, n, kd, tl, V, g, rm, hR⟩ := hR
  have hR' := hR
  obtain ⟨⟨hC, hF, hM⟩, cR, mR9, hA, hT, hrm, i5, hN, hS⟩ := hR
  refine Rf.go 100 [431] ?_
  refine Or.inl ⟨by decide, ib 1 (by decide) (by decide), ?_⟩
  refine Or.inl ⟨by decide, ib 2 (by decide) (by decide), ?_⟩
  refine c_coefficient (d := 0) hK hC hF cR (by decide) (fun I1 J1 hf => ?_)
  refine Or.inl ⟨by decide, ib 1 (by decide) (by decide), ?_⟩
  refine Or.inl ⟨by decide, ib 2 (by decide) (by decide), ?_⟩
  refine m_coefficient (d := 0) hM (mR9.ge (hf.k hC)) (by decide) (fun I2 J2 hf2 => ?_)
  exact And.intro (fun _ => Rf.weak [(0, .ref 4), (1, .ref 8), (2, .ref 475), (3, .int (nI i))] ⟨rfl, rfl, rfl, rfl, trivial⟩ (fin M I2 J2 (hR'.q hf hf2))) (fun q => absurd (decide_eq_true rfl) q)
theorem L_conjugate (hK : Kst K) (ib : ∀ c : Int, 0 ≤ c → c < 5 → inb (nI i + Int32.ofInt c) (K 4).1 = true) (hR : Rel M I) (fin : ∀ M I J, Rel M I → Rf K 30 mc_168 431 (Lw i) [] (St M I J) post) : Rf K 30 mc_168 343 (Lw i) [] (St M I J) post := by
  obtain ⟨o, o2, p, iz, D, h, n, kd, tl, V, g, rm, hR⟩ := hR
  have hR' := hR
  obtain ⟨⟨hC, hF, hM⟩, cR, mR9, hA, hT, hrm, i5, hN, hS⟩ := hR
  refine Rf.go 100 [431] ?_
  refine Or.inl ⟨by decide, ib 1 (by decide) (by decide), ?_⟩
  refine Or.inl ⟨by decide, ib 2 (by decide) (by decide), ?_⟩
  refine Or.inl ⟨by decide, ib 3 (by decide) (by decide), ?_⟩
  refine c_conjugate (d := 0) hK hC hF cR (by decide) (fun I1 J1 hf => ?_)
  refine Or.inl ⟨by decide, ib 1 (by decide) (by decide), ?_⟩
  refine Or.inl ⟨by decide, ib 2 (by decide) (by decide), ?_⟩
  refine Or.inl ⟨by decide, ib 3 (by decide) (by decide), ?_⟩
  refine m_conjugate (d := 0) hM (mR9.ge (hf.k hC)) (by decide) (fun I2 J2 hf2 => ?_)
  exact And.intro (fun _ => Rf.weak [(0, .ref 4), (1, .ref 8), (2, .ref 475), (3, .int (nI i))] ⟨rfl, rfl, rfl, rfl, trivial⟩ (fin M I2 J2 (hR'.q hf hf2))) (fun q => absurd (decide_eq_true rfl) q)
theorem L_order (hK : Kst K) (ib : ∀ c : Int, 0 ≤ c → c < 5 → inb (nI i + Int32.ofInt c) (K 4).1 = true) (hR : Rel M I) (fin : ∀ M I J, Rel M I → Rf K 30 mc_168 431 (Lw i) [] (St M I J) post) : Rf K 30 mc_168 380 (Lw i) [] (St M I J) post := by
  obtain ⟨o, o2, p, iz, D, h, n, kd, tl, V, g, rm, hR⟩ := hR
  have hR' := hR
  obtain ⟨⟨hC, hF, hM⟩, cR, mR9, hA, hT, hrm, i5, hN, hS⟩ := hR
  refine Rf.go 100 [431] ?_
  refine Or.inl ⟨by decide, ib 1 (by decide) (by decide), ?_⟩
  refine c_order (d := 0) hK hC hF cR (by decide) (fun I1 J1 hf => ?_)
  refine Or.inl ⟨by decide, ib 1 (by decide) (by decide), ?_⟩
  refine m_order (d := 0) hM (mR9.ge (hf.k hC)) (by decide) (fun I2 J2 hf2 => ?_)
  exact And.intro (fun _ => Rf.weak [(0, .ref 4), (1, .ref 8), (2, .ref 475), (3, .int (nI i))] ⟨rfl, rfl, rfl, rfl, trivial⟩ (fin M I2 J2 (hR'.q hf hf2))) (fun q => absurd (decide_eq_true rfl) q)
theorem L_corners (hK : Kst K) (ib : ∀ c : Int, 0 ≤ c → c < 5 → inb (nI i + Int32.ofInt c) (K 4).1 = true) (hR : Rel M I) (fin : ∀ M I J, Rel M I → Rf K 30 mc_168 431 (Lw i) [] (St M I J) post) : Rf K 30 mc_168 397 (Lw i) [] (St M I J) post := by
  obtain ⟨o, o2, p, iz, D, h, n, kd, tl, V, g, rm, hR⟩ := hR
  have hR' := hR
  obtain ⟨⟨hC, hF, hM⟩, cR, mR9, hA, hT, hrm, i5, hN, hS⟩ := hR
  refine Rf.go 100 [431] ?_
  refine Or.inl ⟨by decide, ib 1 (by decide) (by decide), ?_⟩
  refine c_corners (d := 0) hC cR (by decide) ?_
  refine Or.inl ⟨by decide, ib 1 (by decide) (by decide), ?_⟩
  refine m_corners (d := 0) hM mR9 (by decide) ?_
  exact And.intro (fun _ => Rf.weak [(0, .ref 4), (1, .ref 8), (2, .ref 475), (3, .int (nI i))] ⟨rfl, rfl, rfl, rfl, trivial⟩ (fin M I J (hR'.q QfC.rfl' QfM.rfl'))) (fun q => absurd (decide_eq_true rfl) q)
theorem L_count (hK : Kst K) (ib : ∀ c : Int, 0 ≤ c → c < 5 → inb (nI i + Int32.ofInt c) (K 4).1 = true) (hR : Rel M I) (fin : ∀ M I J, Rel M I → Rf K 30 mc_168 431 (Lw i) [] (St M I J) post) : Rf K 30 mc_168 414 (Lw i) [] (St M I J) post := by
  obtain ⟨o, o2, p, iz, D, h, n, kd, tl, V, g, rm, hR⟩ := hR
  have hR' := hR
  obtain ⟨⟨hC, hF, hM⟩, cR, mR9, hA, hT, hrm, i5, hN, hS⟩ := hR
  refine Rf.go 100 [431] ?_
  refine Or.inl ⟨by decide, ib 1 (by decide) (by decide), ?_⟩
  refine c_count (d := 0) hK hC cR hA (by decide) ?_
  refine Or.inl ⟨by decide, ib 1 (by decide) (by decide), ?_⟩
  refine m_count (d := 0) hM mR9 hA (by decide) ?_
  exact And.intro (fun _ => Rf.weak [(0, .ref 4), (1, .ref 8), (2, .ref 475), (3, .int (nI i))] ⟨rfl, rfl, rfl, rfl, trivial⟩ (fin M I J (hR'.q QfC.rfl' QfM.rfl'))) (fun q => absurd (decide_eq_true rfl) q)
end Lp
