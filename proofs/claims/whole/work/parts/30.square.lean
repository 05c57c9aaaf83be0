/-! Tower.divide, Tower.isSquareAt in elements -/
section Dv
variable {K : Ka} {d T x y out p h : Nat} {M : Me} {I : Nat → Nat → Int32} {J : Nat → Nat → Int64} {D : Nat → Nat → Nat}
set_option maxHeartbeats 2000000 in
theorem e_divide [NeZero p] {X Y : TR p D h} (hp : Pr p) (hodd : p % 2 = 1) (hK : Ksp K) (hT : TwM M T) (hI : TwI I T p h D) (hD : tOk p D h) (hx : rc M x) (hy : rc M y) (ho : rc M out) (hX : Re I p D h x X) (hY : Re I p D h y Y) (hx7 : x ≠ T + 7) (hx8 : x ≠ T + 8) (hx9 : x ≠ T + 9) : Ok K (d + 3) 62 [.ref T, .ref x, .ref y, .ref out] (St M I J) (fun r M1 => r = none ∧ ∃ I1 J1 Z, M1 = St M I1 J1 ∧ Re I1 p D h out ((TI p D h).mul X Z) ∧ @IsInv (TR p D h) (TI p D h) Y Z ∧ ∀ a, a ≠ out → a ≠ T + 7 → a ≠ T + 8 → a ≠ T + 9 → I1 a = I a) := by
  have hTc := hT.1
  obtain ⟨hR5, hR6, hR7, hR8⟩ := hT.2.2.2.2.1
  have hrow := hT.2.2.2.2.2.2
  have r8 : rc M (T + 8) := hrow _ (Or.inr (Or.inl ⟨by omega, by omega⟩))
  refine Ok.go (e := me_62) rfl rfl (Nat.le_of_ble_eq_true rfl) hTc ?_
  refine Rf.go 100 [] ?_
  refine And.intro hTc ⟨T + 8, hR6, ?_⟩
  refine (e_invert (d := d) (J := J) hp hodd hK hT hI hD hy r8 hY).up (Nat.le_refl _) ?_
  rintro r M1 ⟨rfl, I1, J1, Z, rfl, hZ, hinv, hfr⟩
  have hI1 : TwI I1 T p h D := hI.keep (hfr T (by omega) (by omega) (by omega) (by omega)) (hfr (T + 5) (by omega) (by omega) (by omega) (by omega))
  refine And.intro hTc ⟨T + 8, hR6, ?_⟩
  refine Wr.go (e_mul (d := d) hK hT hI1 hx r8 ho (hX.keep (hfr x hx8 hx7 hx8 hx9)) hZ) (by omega) (fun J2 => ?_)
  exact ⟨rfl, rfl, _, J2, Z, rfl, Re_rwE, hinv, fun a h1 h2 h3 h4 => by rw [rwE_ne h1, hfr a h3 h2 h3 h4]⟩
theorem bI_ok (b : Bool) : rok (some .boolean) (some (.int (bI b))) = true := by cases b <;> rfl
set_option maxHeartbeats 4000000 in
theorem e_isSq [NeZero p] {k : Nat} {X : TR p D k} (hp : Pr p) (hodd : p % 2 = 1) (hK : Ksp K) (hT : TwM M T) (hI : TwI I T p h D) (hD : tOk p D k) (hkh : k ≤ h) (hx : rc M x) (hX : Re I p D k x X) : Ok K (d + 2) 63 [.ref T, .ref x, .int (nI k)] (St M I J) (fun r M1 => ∃ I1 J1 b, r = some (.int (bI b)) ∧ M1 = St M I1 J1 ∧ (b = true ↔ @Sq (TR p D k) (TI p D k) X) ∧ ∀ a, a ≠ T + 7 → a ≠ T + 8 → I1 a = I a) := by
  have hTc := hT.1
  obtain ⟨hR5, hR6, hR7, hR8⟩ := hT.2.2.2.2.1
  have hrow := hT.2.2.2.2.2.2
  have r7 : rc M (T + 7) := hrow _ (Or.inr (Or.inl ⟨by omega, by omega⟩))
  have r8 : rc M (T + 8) := hrow _ (Or.inr (Or.inl ⟨by omega, by omega⟩))
  have hpb := hI.2.2.2.1
  have hh3 := hI.2.2.1
  refine Ok.go (e := me_63) rfl rfl (Nat.le_of_ble_eq_true rfl) hTc ?_
  have hsq := nc_sq hp hodd k hD X
  generalize hpost : (fun (r : Option Value) (M1 : Me) => rok me_63.2.2.2.1 r = true ∧ ∃ I1 J1 b, r = some (.int (bI b)) ∧ M1 = St M I1 J1 ∧ (b = true ↔ @Sq (TR p D k) (TI p D k) X) ∧ ∀ a, a ≠ T + 7 → a ≠ T + 8 → I1 a = I a) = post
  have key : ∀ m, m ≤ k → ∀ (I1 : Nat → Nat → Int32) (J1 : Nat → Nat → Int64) (N : TR p D m), (∀ a, a ≠ T + 7 → a ≠ T + 8 → I1 a = I a) → Re I1 p D m (T + 7) N → nc p D m N = nc p D k X → Rf K (d + 1) mc_63 7 (lk [(3, .int (nI m)), (0, .ref T)]) [] (St M I1 J1) post := by
    intro m
    induction m with
    | zero =>
      intro _ I1 J1 N hfr hN hnc
      have hI1 : TwI I1 T p h D := hI.keep (hfr T (by omega) (by omega)) (hfr (T + 5) (by omega) (by omega))
      have hN0 : I1 (T + 7) 0 = nI (Fin.val N) := hN 0 (by decide)
      have hNl := Fin.isLt N
      have e2 : I1 T 0 - Int32.ofInt 1 = nI (p - 1) := by rw [hI1.1]; exact pk_sub (b := 1) (by omega)
      have e3 : (I1 T 0 - Int32.ofInt 1) / Int32.ofInt 2 = nI ((p - 1) / 2) := by rw [e2]; exact pk_div (d := 2) (by omega) (by decide) (by decide)
      have hn : ∀ q : Prop, (Fin.val N = 0 ∨ q) ↔ (nc p D k X = 0 ∨ q) := fun q => by
        rw [← hnc]
        exact or_congr ⟨fun h => Fin.ext h, fun h => congrArg Fin.val h⟩ Iff.rfl
      refine Rf.go 100 [] ?_
      refine And.intro (fun _ => ?_) (fun hb => absurd ((le0N (by omega)).mpr rfl) hb)
      refine And.intro hTc ⟨T + 7, hR5, ?_⟩
      refine Or.inr (And.intro ⟨r7.1, rc_in r7 (i := 0) (by decide)⟩ ?_)
      refine And.intro (fun hb => ?_) (fun hb => ?_)
      · have hb : I1 (T + 7) 0 = 0 := of_decide_eq_true hb
        rw [hN0] at hb
        have h0 : Fin.val N = 0 := (nI_eq (b := 0) (by omega) (by omega)).mp hb
        rw [← hpost]
        exact ⟨rfl, I1, J1, true, rfl, rfl, iff_of_true rfl (hsq.mpr ((hn _).mp (Or.inl h0))), hfr⟩
      · have hb : ¬ I1 (T + 7) 0 = 0 := fun q => hb (decide_eq_true q)
        rw [hN0] at hb
        have h0 : ¬ Fin.val N = 0 := fun q => hb (by rw [q]; rfl)
        refine And.intro hTc ⟨T + 7, hR5, ?_⟩
        refine Or.inr (And.intro ⟨r7.1, rc_in r7 (i := 0) (by decide)⟩ ?_)
        refine And.intro hTc ?_
        refine And.intro (by decide) ?_
        have hpw := t_power (K := K) (d := d) (M := M) (I := I1) (J := J1) (T := T) (p := p) (a := Fin.val N) (n := (p - 1) / 2) hTc hI1.1 (by omega) hpb.2 hNl (by omega)
        rw [← hN0, ← e3] at hpw
        refine hpw.up (Nat.le_refl _) ?_
        rintro r M1 ⟨rfl, rfl⟩
        have hpv : Fin.val (pw (N : Fin p) ((p - 1) / 2)) = Fin.val N ^ ((p - 1) / 2) % p := fin_pw (p := p) (show 2 ≤ p by omega) N ((p - 1) / 2)
        have hiff : nI (Fin.val N ^ ((p - 1) / 2) % p) = Int32.ofInt 1 ↔ pw (nc p D k X) ((p - 1) / 2) = 1 := by
          rw [← hnc]
          constructor
          · intro q
            have q : Fin.val N ^ ((p - 1) / 2) % p = 1 := (nI_eq (b := 1) (by have := Nat.mod_lt (Fin.val N ^ ((p - 1) / 2)) (show 0 < p by omega); omega) (by omega)).mp q
            exact Fin.ext (hpv.trans (q.trans (fin_one hp).symm))
          · intro q
            have q := congrArg Fin.val q
            have q : Fin.val N ^ ((p - 1) / 2) % p = 1 := hpv.symm.trans (q.trans (fin_one hp))
            rw [q]
            rfl
        refine And.intro (fun hc => ?_) (fun hc => ?_)
        · have hc : ¬ nI (Fin.val N ^ ((p - 1) / 2) % p) = Int32.ofInt 1 := of_decide_eq_true hc
          rw [← hpost]
          refine ⟨rfl, I1, J1, false, rfl, rfl, iff_of_false (by decide) (fun q => ?_), hfr⟩
          rcases (hn _).mpr (hsq.mp q) with q | q
          · exact h0 q
          · exact hc (hiff.mpr q)
        · have hc : nI (Fin.val N ^ ((p - 1) / 2) % p) = Int32.ofInt 1 := Classical.not_not.mp (fun q => hc (decide_eq_true q))
          rw [← hpost]
          exact ⟨rfl, I1, J1, true, rfl, rfl, iff_of_true rfl (hsq.mpr (Or.inr (hiff.mp hc))), hfr⟩
    | succ m ih =>
      intro hk I1 J1 N hfr hN hnc
      have hI1 : TwI I1 T p h D := hI.keep (hfr T (by omega) (by omega)) (hfr (T + 5) (by omega) (by omega))
      refine Rf.go 100 [7] ?_
      refine And.intro (fun hb => absurd ((le0N (by omega)).mp hb) (by omega)) (fun _ => ?_)
      refine And.intro hTc ⟨T + 7, hR5, ?_⟩
      refine And.intro hTc ⟨T + 8, hR6, ?_⟩
      refine Wr.go (e_mirror (d := d) (X := N) hT hI1 (by omega) r7 r8 hN) (Nat.le_refl _) (fun J2 => ?_)
      generalize hI2 : rwE I1 p D (m + 1) (T + 8) ((N.1, (TI p D m).neg N.2) : TR p D m × TR p D m) = I2
      have f2 : ∀ a, a ≠ T + 8 → I2 a = I1 a := fun a ha => by rw [← hI2]; exact rwE_ne ha
      have hM2 : Re I2 p D (m + 1) (T + 8) ((N.1, (TI p D m).neg N.2) : TR p D m × TR p D m) := by rw [← hI2]; exact Re_rwE
      have hTI2 : TwI I2 T p h D := hI1.keep (f2 T (by omega)) (f2 (T + 5) (by omega))
      refine And.intro hTc ⟨T + 7, hR5, ?_⟩
      refine And.intro hTc ⟨T + 8, hR6, ?_⟩
      refine And.intro hTc ⟨T + 7, hR5, ?_⟩
      refine Wr.go (e_mulk (d := d) hK hT hTI2 (by omega) r7 r8 r7 (hN.keep (f2 _ (by omega))) hM2) (Nat.le_refl _) (fun J3 => ?_)
      have en := @conj_nrm (TR p D m) (TI p D m) (oV p D m (D m)) N
      have en : (TI p D (m + 1)).mul N ((N.1, (TI p D m).neg N.2) : TR p D m × TR p D m) = (@nrm (TR p D m) (TI p D m) (oV p D m (D m)) N, ((TI p D m).ofNat 0).ofNat) := en
      rw [en]
      generalize hI3 : rwE I2 p D (m + 1) (T + 7) (@nrm (TR p D m) (TI p D m) (oV p D m (D m)) N, ((TI p D m).ofNat 0).ofNat) = I3
      have f3 : ∀ a, a ≠ T + 7 → I3 a = I2 a := fun a ha => by rw [← hI3]; exact rwE_ne ha
      have hN3 : Re I3 p D m (T + 7) (@nrm (TR p D m) (TI p D m) (oV p D m (D m)) N) := by
        rw [← hI3]
        intro j hj
        refine (Re_rwE (I := I2) (p := p) (D := D) (h := m + 1) (a := T + 7) j hj).trans ?_
        exact congrArg nI (tV_fst (h := m) _ j)
      refine Rf.weak [(3, .int (nI m)), (0, .ref T)] ⟨dec1 m, rfl, trivial⟩ ?_
      exact ih (by omega) I3 J3 _ (fun a h1 h2 => by rw [f3 a h1, f2 a h2, hfr a h1 h2]) hN3 hnc
  refine Rf.go 100 [7] ?_
  refine And.intro hTc ⟨T + 7, hR5, ?_⟩
  refine Wr.go (e_copy (d := d) (X := X) hT hx r7 hX) (Nat.le_refl _) (fun J2 => ?_)
  refine Rf.weak [(3, .int (nI k)), (0, .ref T)] ⟨rfl, rfl, trivial⟩ ?_
  exact key k (Nat.le_refl k) _ J2 X (fun a h1 _ => rwE_ne h1) Re_rwE rfl
end Dv
