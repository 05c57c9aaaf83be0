/-! coefficient: the class -/
noncomputable def cfA (p : Nat) [NeZero p] (D : Nat → Nat → Nat) (h n : Nat) (kd : Nat → Nat) (V : Nat → Nat → Nat → Nat) (t i : Int32) : Int32 := @ite _ (isT n kd t 0 ∧ ¬ i < 0) (Classical.propDecidable _) (if 2 ^ lvN (V (clp t) 0) < clp i then Int32.ofInt 0 else nI (tV p D h (@prd (TR p D h) (TI p D h) ((dwn (2 ^ lvN (V (clp t) 0))).map (cj p D h (oV p D h (V (clp t) 0)))) (clp i)) 0)) (Int32.ofInt (-1))
theorem gtN {i n : Nat} (hi : i < 2 ^ 31) (hn : n < 2 ^ 31) : cmpI .gt (nI i) (nI n) = true ↔ n < i := ⟨fun q => (nI_ltI hn hi).mp (of_decide_eq_true q), fun q => decide_eq_true (nI_lt q hi)⟩
section Qi
variable {K : Ka} {d o o2 m p h n : Nat} {M : Me} {I G : Nat → Nat → Int32} {J : Nat → Nat → Int64} {D : Nat → Nat → Nat} {kd : Nat → Nat} {tl : Nat → Nat → Int32} {V : Nat → Nat → Nat → Nat} {g : Nat → Nat} {s t u : Int32}
theorem Em_pw [NeZero p] {k : Nat} (hp2 : 2 ≤ p) (hk : k ≤ h) (x : TR p D k) : ∀ n, Em p D k h (@pw (TR p D k) (TI p D k) x n) = @pw (TR p D h) (TI p D h) (Em p D k h x) n
  | 0 => Em_one hp2 hk
  | n + 1 => by
    show Em p D k h ((TI p D k).mul (@pw (TR p D k) (TI p D k) x n) x) = (TI p D h).mul (@pw (TR p D h) (TI p D h) (Em p D k h x) n) (Em p D k h x)
    rw [Em_mul hk, Em_pw hp2 hk x n]
theorem e_mirF [NeZero p] {T x out k : Nat} {Y : TR p D h} (hpr : Pr p) (hodd : p % 2 = 1) (hT : TwM M T) (hI : TwI I T p h D) (hTk : tOk p D h) (hk : k + 1 ≤ h) (hx : rc M x) (ho : rc M out) (hY : Re I p D h x Y) (hlev : @pw (TR p D h) (TI p D h) Y (p ^ 2 ^ (k + 1)) = Y) : Wr K (d + 1) 60 [.ref T, .ref x, .int (nI (k + 1)), .ref out] M I J (rwE I p D h out (@pw (TR p D h) (TI p D h) Y (p ^ 2 ^ k))) := by
  have hh3 := hI.2.2.1
  have hp2 := hI.2.2.2.1
  have hz := (lev_iff hpr hodd h (k + 1) hTk hk Y).mp hlev
  have tX : tV p D (k + 1) (oV p D (k + 1) (tV p D h Y)) = tV p D h Y := tV_eq (fun j => tV_lt) hz
  have eX : Em p D (k + 1) h (oV p D (k + 1) (tV p D h Y)) = Y := by
    unfold Em
    rw [tX]
    exact oV_tV h Y
  generalize oV p D (k + 1) (tV p D h Y) = X at tX eX
  have w := e_mirror (K := K) (d := d) (J := J) (X := X) hT hI (by omega) hx ho (fun j hj => by rw [tX]; exact hY j hj)
  have fr : @pw (TR p D (k + 1)) (TI p D (k + 1)) X (p ^ 2 ^ k) = ((X.1, (TI p D k).neg X.2) : TR p D k × TR p D k) := @qx_frob (TR p D k) (TI p D k) p (2 ^ k) (tw_Fl hpr hodd k (hTk.le (by omega))) (oV p D k (D k)) (hTk k (by omega)) X
  have e : rwE I p D (k + 1) out ((X.1, (TI p D k).neg X.2) : TR p D k × TR p D k) = rwE I p D h out (@pw (TR p D h) (TI p D h) Y (p ^ 2 ^ k)) := by
    unfold rwE
    refine rw8_congr (fun j _ => congrArg nI ?_)
    have e1 := congrFun (Em_tV hk (@pw (TR p D (k + 1)) (TI p D (k + 1)) X (p ^ 2 ^ k))) j
    rw [Em_pw (by omega) hk, eX] at e1
    rw [e1, fr]
  rw [e] at w
  exact w
set_option maxHeartbeats 2000000 in
theorem f_mirror [NeZero p] {T k l d' : Nat} {z1 z2 : Int32} {P : Nat → TR p D h} {post : Option Value → Me → Prop} (hK : Ksp K) (hF : FcM M) (hT : TwM M T) (hT37 : 37 ≤ T) (hA : TwA I T p h D) (hz1 : z1 = nI (k + 1)) (hz2 : z2 = nI l) (hl : l ≤ 4) (hk : k + 1 ≤ h) (hP : ∀ i, i ≤ l → Re I p D h (14 + i) (P i)) (hP0 : ∀ i, l < i → P i = ((TI p D h).ofNat 0).ofNat) (hlev : ∀ i, @pw (TR p D h) (TI p D h) (P i) (p ^ 2 ^ (k + 1)) = P i) (hd : d + 3 ≤ d') (hp : ∀ I1 J1, (∀ i, i ≤ 2 * l → Re I1 p D h (14 + i) (@cnv (TR p D h) (TI p D h) P (fun i => @pw (TR p D h) (TI p D h) (P i) (p ^ 2 ^ k)) i)) → (∀ a, ¬ (14 ≤ a ∧ a ≤ 35) → I1 a = I a) → post none (St M I1 J1)) : Ok K d' 2 [.ref 12, .ref T, .int z1, .int z2] (St M I J) post := by
  refine Ok.up (d := d + 3) (post := post) ?_ hd (fun _ _ h => h)
  subst hz1 hz2
  obtain ⟨fc, ⟨p0, pc, plen, pr⟩, ⟨l0, lc, ll, lr⟩, ⟨q0, qc, ql, qr⟩, ⟨t0, -⟩, frc⟩ := hF
  have hF2 : ∀ {a : Nat}, (14 ≤ a ∧ a ≤ 22) ∨ (24 ≤ a ∧ a ≤ 28) ∨ (30 ≤ a ∧ a ≤ 36) → rc M a := fun {a} h => frc a h
  have pa : ∀ (z : Int32) (i : Nat), z = nI i → i < 9 → (isC M 13 13 = true ∧ inb z (mH M 13).2 = true) ∧ mR M 13 z.toNatClampNeg = some (14 + i) := fun z i hz hi => by
    subst hz
    rw [nI_clamp (by omega), plen]
    exact ⟨⟨pc, inb_n hi (by omega)⟩, pr i hi⟩
  have la : ∀ i, i < 5 → (isC M 23 13 = true ∧ inb (nI i) (mH M 23).2 = true) ∧ mR M 23 (nI i).toNatClampNeg = some (24 + i) := fun i hi => by
    rw [nI_clamp (by omega), ll]
    exact ⟨⟨lc, inb_n hi (by omega)⟩, lr i hi⟩
  have qa : ∀ i, i < 5 → (isC M 29 13 = true ∧ inb (nI i) (mH M 29).2 = true) ∧ mR M 29 (nI i).toNatClampNeg = some (30 + i) := fun i hi => by
    rw [nI_clamp (by omega), ql]
    exact ⟨⟨qc, inb_n hi (by omega)⟩, qr i hi⟩
  obtain ⟨hI, hTF, hTB, hTk, hpr, hodd⟩ := hA
  have hh3 := hI.2.2.1
  have pb := hI.2.2.2.1
  generalize hQ : (fun i => @pw (TR p D h) (TI p D h) (P i) (p ^ 2 ^ k)) = Q at hp
  have hQi : ∀ i, @pw (TR p D h) (TI p D h) (P i) (p ^ 2 ^ k) = Q i := fun i => by rw [← hQ]
  have hQ0 : ∀ i, l < i → Q i = ((TI p D h).ofNat 0).ofNat := fun i hi => by
    rw [← hQi, hP0 i hi]
    have : 0 < p ^ 2 ^ k := Nat.pow_pos (by omega)
    exact @pw_zero (TR p D h) (TI p D h) _ (by omega)
  have tw : ∀ (I1 : Nat → Nat → Int32), (∀ a, ¬ (14 ≤ a ∧ a ≤ 35) → I1 a = I a) → TwI I1 T p h D := fun I1 hf => hI.keep (hf _ (by omega)) (hf _ (by omega))
  refine Ok.go (e := me_2) rfl rfl (Nat.le_of_ble_eq_true rfl) fc ?_
  generalize hpst : (fun (r : Option Value) (M1 : Me) => rok me_2.2.2.2.1 r = true ∧ post r M1) = pst9
  -- the third loop
  have k3 : ∀ i, i ≤ l + 1 → ∀ I1 J1, (∀ c, c ≤ 2 * l → Re I1 p D h (14 + c) (@acc (TR p D h) (TI p D h) P Q l i 0 c)) → (∀ c, c ≤ l → Re I1 p D h (24 + c) (P c) ∧ Re I1 p D h (30 + c) (Q c)) → (∀ a, ¬ (14 ≤ a ∧ a ≤ 35) → I1 a = I a) → Rf K (d + 2) mc_2 50 (lk [(5, .int (nI i)), (4, .int (nI l)), (0, .ref 12), (1, .ref T)]) [] (St M I1 J1) pst9 := by
    refine for_up (l + 1) ?_ (fun i hi ih => ?_)
    · intro I1 J1 ha hb hf
      refine Rf.go 100 [50, 55] ?_
      refine And.intro (fun _ => ?_) (fun q => absurd ((gtN (by omega) (by omega)).mpr (by omega)) q)
      rw [← hpst]
      refine ⟨rfl, hp I1 J1 (fun c hc => ?_) hf⟩
      have w := ha c hc
      rw [@acc_f (TR p D h) (TI p D h) P Q l c hP0 hQ0] at w
      exact w
    · have k4 : ∀ j, j ≤ l + 1 → ∀ I1 J1, (∀ c, c ≤ 2 * l → Re I1 p D h (14 + c) (@acc (TR p D h) (TI p D h) P Q l i j c)) → (∀ c, c ≤ l → Re I1 p D h (24 + c) (P c) ∧ Re I1 p D h (30 + c) (Q c)) → (∀ a, ¬ (14 ≤ a ∧ a ≤ 35) → I1 a = I a) → Rf K (d + 2) mc_2 55 (lk [(6, .int (nI j)), (5, .int (nI i)), (4, .int (nI l)), (0, .ref 12), (1, .ref T)]) [] (St M I1 J1) pst9 := by
        refine for_up (l + 1) ?_ (fun j hj ih4 => ?_)
        · intro I1 J1 ha hb hf
          refine Rf.go 100 [50, 55] ?_
          refine And.intro (fun _ => ?_) (fun q => absurd ((gtN (by omega) (by omega)).mpr (by omega)) q)
          refine Rf.weak [(5, .int (nI (i + 1))), (4, .int (nI l)), (0, .ref 12), (1, .ref T)] ⟨inc1 i, rfl, rfl, rfl, trivial⟩ (ih I1 J1 (fun c hc => ?_) hb hf)
          have w := ha c hc
          rw [@acc_i (TR p D h) (TI p D h) P Q l i c] at w
          exact w
        · intro I1 J1 ha hb hf
          refine Rf.go 100 [50, 55] ?_
          refine And.intro (fun q => absurd ((gtN (by omega) (by omega)).mp q) (by omega)) (fun _ => ?_)
          refine And.intro fc ⟨23, l0, ?_⟩
          refine And.intro (la i (by omega)).1 ⟨24 + i, (la i (by omega)).2, ?_⟩
          refine And.intro fc ⟨29, q0, ?_⟩
          refine And.intro (qa j (by omega)).1 ⟨30 + j, (qa j (by omega)).2, ?_⟩
          refine And.intro fc ⟨35, t0, ?_⟩
          refine Wr.go (e_mul (d := d) hK hT (tw I1 hf) (hF2 (by omega)) (hF2 (by omega)) (hF2 (by omega)) (hb i (by omega)).1 (hb j (by omega)).2) (by omega) (fun J2 => ?_)
          have ea : nI i + nI j = nI (i + j) := nI_add i j
          refine And.intro fc ⟨13, p0, ?_⟩
          refine And.intro (pa _ (i + j) ea (by omega)).1 ⟨14 + (i + j), (pa _ (i + j) ea (by omega)).2, ?_⟩
          refine And.intro fc ⟨35, t0, ?_⟩
          refine And.intro fc ⟨13, p0, ?_⟩
          refine And.intro (pa _ (i + j) ea (by omega)).1 ⟨14 + (i + j), (pa _ (i + j) ea (by omega)).2, ?_⟩
          refine Wr.go (e_add (d := d) hT (tw _ (fun a q => by rw [rwE_ne (by omega)]; exact hf a q)) (hF2 (by omega)) (hF2 (by omega)) (hF2 (by omega)) ((ha (i + j) (by omega)).keep (rwE_ne (by omega))) Re_rwE) (by omega) (fun J3 => ?_)
          refine Rf.weak [(6, .int (nI (j + 1))), (5, .int (nI i)), (4, .int (nI l)), (0, .ref 12), (1, .ref T)] ⟨inc1 j, rfl, rfl, rfl, rfl, trivial⟩ (ih4 _ J3 (fun c hc => ?_) (fun c hc => ⟨?_, ?_⟩) (fun a q => ?_))
          · by_cases e : c = i + j
            · rw [e, @acc_j (TR p D h) (TI p D h) P Q l i j]
              exact Re_rwE
            · rw [@acc_n (TR p D h) (TI p D h) P Q l i j c e]
              exact ((ha c hc).keep (rwE_ne (by omega))).keep (rwE_ne (by omega))
          · exact ((hb c hc).1.keep (rwE_ne (by omega))).keep (rwE_ne (by omega))
          · exact ((hb c hc).2.keep (rwE_ne (by omega))).keep (rwE_ne (by omega))
          · rw [rwE_ne (by omega), rwE_ne (by omega)]
            exact hf a q
      intro I1 J1 ha hb hf
      refine Rf.go 100 [50, 55] ?_
      refine And.intro (fun q => absurd ((gtN (by omega) (by omega)).mp q) (by omega)) (fun _ => ?_)
      exact Rf.weak [(6, .int (nI 0)), (5, .int (nI i)), (4, .int (nI l)), (0, .ref 12), (1, .ref T)] ⟨rfl, rfl, rfl, rfl, rfl, trivial⟩ (k4 0 (by omega) I1 J1 ha hb hf)
  -- the second loop
  have k2 : ∀ i, i ≤ 2 * l + 1 → ∀ I1 J1, (∀ c, c < i → Re I1 p D h (14 + c) ((TI p D h).ofNat 0).ofNat) → (∀ c, c ≤ l → Re I1 p D h (24 + c) (P c) ∧ Re I1 p D h (30 + c) (Q c)) → (∀ a, ¬ (14 ≤ a ∧ a ≤ 35) → I1 a = I a) → Rf K (d + 2) mc_2 34 (lk [(5, .int (nI i)), (4, .int (nI l)), (0, .ref 12), (1, .ref T)]) [] (St M I1 J1) pst9 := by
    have e2l : Int32.ofInt 2 * nI l = nI (2 * l) := pk_mul 2 l
    refine for_up (2 * l + 1) ?_ (fun i hi ih => ?_)
    · intro I1 J1 ha hb hf
      refine Rf.go 100 [34, 50] ?_
      refine And.intro (fun _ => ?_) (fun q => absurd ?_ q)
      · refine Rf.weak [(5, .int (nI 0)), (4, .int (nI l)), (0, .ref 12), (1, .ref T)] ⟨rfl, rfl, rfl, rfl, trivial⟩ (k3 0 (by omega) I1 J1 (fun c hc => ?_) hb hf)
        rw [@acc_0 (TR p D h) (TI p D h)]
        exact ha c (by omega)
      · show cmpI .gt (nI (2 * l + 1)) (Int32.ofInt 2 * nI l) = true
        rw [e2l]
        exact (gtN (by omega) (by omega)).mpr (by omega)
    · intro I1 J1 ha hb hf
      refine Rf.go 100 [34, 50] ?_
      refine And.intro (fun q => ?_) (fun _ => ?_)
      · have q : cmpI .gt (nI i) (Int32.ofInt 2 * nI l) = true := q
        rw [e2l] at q
        exact absurd ((gtN (by omega) (by omega)).mp q) (by omega)
      refine And.intro fc ⟨13, p0, ?_⟩
      refine And.intro (pa _ i rfl (by omega)).1 ⟨14 + i, (pa _ i rfl (by omega)).2, ?_⟩
      refine Wr.go (e_set0 (d := d) hT (tw I1 hf) (by omega) (hF2 (by omega))) (by omega) (fun J2 => ?_)
      refine Rf.weak [(5, .int (nI (i + 1))), (4, .int (nI l)), (0, .ref 12), (1, .ref T)] ⟨inc1 i, rfl, rfl, rfl, trivial⟩ (ih _ J2 (fun c hc => ?_) (fun c hc => ⟨(hb c hc).1.keep (rwE_ne (by omega)), (hb c hc).2.keep (rwE_ne (by omega))⟩) (fun a q => ?_))
      · by_cases e : c = i
        · rw [e]
          exact Re_rwE
        · exact (ha c (by omega)).keep (rwE_ne (by omega))
      · rw [rwE_ne (by omega)]
        exact hf a q
  -- the first loop
  have k1 : ∀ i, i ≤ l + 1 → ∀ I1 J1, (∀ c, c ≤ l → Re I1 p D h (14 + c) (P c)) → (∀ c, c < i → Re I1 p D h (24 + c) (P c) ∧ Re I1 p D h (30 + c) (Q c)) → (∀ a, ¬ (14 ≤ a ∧ a ≤ 35) → I1 a = I a) → Rf K (d + 2) mc_2 6 (lk [(5, .int (nI i)), (4, .int (nI l)), (0, .ref 12), (1, .ref T), (2, .int (nI (k + 1)))]) [] (St M I1 J1) pst9 := by
    refine for_up (l + 1) ?_ (fun i hi ih => ?_)
    · intro I1 J1 ha hb hf
      refine Rf.go 100 [6, 34] ?_
      refine And.intro (fun _ => ?_) (fun q => absurd ((gtN (by omega) (by omega)).mpr (by omega)) q)
      exact Rf.weak [(5, .int (nI 0)), (4, .int (nI l)), (0, .ref 12), (1, .ref T)] ⟨rfl, rfl, rfl, rfl, trivial⟩ (k2 0 (by omega) I1 J1 (fun c hc => absurd hc (by omega)) (fun c hc => hb c (by omega)) hf)
    · intro I1 J1 ha hb hf
      refine Rf.go 100 [6, 34] ?_
      refine And.intro (fun q => absurd ((gtN (by omega) (by omega)).mp q) (by omega)) (fun _ => ?_)
      refine And.intro fc ⟨13, p0, ?_⟩
      refine And.intro (pa _ i rfl (by omega)).1 ⟨14 + i, (pa _ i rfl (by omega)).2, ?_⟩
      refine And.intro fc ⟨23, l0, ?_⟩
      refine And.intro (la i (by omega)).1 ⟨24 + i, (la i (by omega)).2, ?_⟩
      refine Wr.go (e_copy (d := d) (X := P i) hT (hF2 (by omega)) (hF2 (by omega)) (ha i (by omega))) (by omega) (fun J2 => ?_)
      refine And.intro fc ⟨13, p0, ?_⟩
      refine And.intro (pa _ i rfl (by omega)).1 ⟨14 + i, (pa _ i rfl (by omega)).2, ?_⟩
      refine And.intro fc ⟨29, q0, ?_⟩
      refine And.intro (qa i (by omega)).1 ⟨30 + i, (qa i (by omega)).2, ?_⟩
      refine Wr.go (e_mirF (d := d) (Y := P i) hpr hodd hT (tw _ (fun a q => by rw [rwE_ne (by omega)]; exact hf a q)) hTk hk (hF2 (by omega)) (hF2 (by omega)) ((ha i (by omega)).keep (rwE_ne (by omega))) (hlev i)) (by omega) (fun J3 => ?_)
      rw [hQi]
      refine Rf.weak [(5, .int (nI (i + 1))), (4, .int (nI l)), (0, .ref 12), (1, .ref T), (2, .int (nI (k + 1)))] ⟨inc1 i, rfl, rfl, rfl, rfl, trivial⟩ (ih _ J3 (fun c hc => ((ha c hc).keep (rwE_ne (by omega))).keep (rwE_ne (by omega))) (fun c hc => ?_) (fun a q => ?_))
      · by_cases e : c = i
        · rw [e]
          exact ⟨Re_rwE.keep (rwE_ne (by omega)), Re_rwE⟩
        · exact ⟨((hb c (by omega)).1.keep (rwE_ne (by omega))).keep (rwE_ne (by omega)), ((hb c (by omega)).2.keep (rwE_ne (by omega))).keep (rwE_ne (by omega))⟩
      · rw [rwE_ne (by omega), rwE_ne (by omega)]
        exact hf a q
  refine Rf.go 100 [6] ?_
  refine And.intro (by decide) ?_
  have em : (if Int32.ofInt 4 < nI l then Int32.ofInt 4 else nI l) = nI l := if_neg (fun q => absurd ((nI_ltI (a := 4) (by decide) (by omega)).mp q) (by omega))
  exact Rf.weak [(5, .int (nI 0)), (4, .int (nI l)), (0, .ref 12), (1, .ref T), (2, .int (nI (k + 1)))] ⟨rfl, congrArg (fun z => some (Value.int z)) em, rfl, rfl, rfl, trivial⟩ (k1 0 (by omega) I J hP (fun c hc => absurd hc (by omega)) (fun _ _ => rfl))
end Qi
