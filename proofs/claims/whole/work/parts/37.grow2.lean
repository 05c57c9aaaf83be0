/-! Tower.grow, Tower.rootOrGrow -/
theorem u2_at {α : Type} {f : Nat → Nat → α} {a j i : Nat} {v : α} : u2 f a j v a i = if i = j then v else f a i := by
  unfold u2
  rw [if_pos rfl]
  rfl
def tabC (h q : Nat) : Prop := ¬ (q / 4 / 8 &&& q / 4 % 8) = 0 ∧ tb (q / 4 / 8 &&& q / 4 % 8) = h ∧ q % 4 < 2 ^ h
section Gw
variable {K : Ka} {d T x y out p h : Nat} {M : Me} {I : Nat → Nat → Int32} {J : Nat → Nat → Int64} {D : Nat → Nat → Nat}
set_option maxHeartbeats 4000000 in
theorem e_grow [NeZero p] {X : TR p D h} (hK : Ksp K) (hT : TwM M T) (hA : TwA I T p h D) (hh : h < 3) (hx : rc M x) (hX : Re I p D h x X) (hns : ¬ @Sq (TR p D h) (TI p D h) X) : Ok K (d + 3) 66 [.ref T, .ref x] (St M I J) (fun r M1 => r = none ∧ ∃ I1 J1, M1 = St M I1 J1 ∧ TwA I1 T p (h + 1) (gD D h (tV p D h X)) ∧ ∀ a, (a < T ∨ T + 9 ≤ a) → I1 a = I a) := by
  have hTc := hT.1
  obtain ⟨hRb, hBc, hBl, hBr⟩ := hT.2.1
  have hrow := hT.2.2.2.2.2.2
  have rB : rc M (T + 2 + h) := hrow _ (Or.inl ⟨by omega, by omega⟩)
  have hDn := gD_tOk hA.2.2.2.1 hns
  have hD'h : gD D h (tV p D h X) h = tV p D h X := gD_eq
  have hA' : TwA I T p h (gD D h (tV p D h X)) := TwA_congr (fun i hi => (gD_lt hi).symm) hA
  have hX' : Re I p (gD D h (tV p D h X)) h x (cv p D h (gD D h (tV p D h X)) h X) := hX.cv (Nat.le_refl h)
  have hB' : cv p D h (gD D h (tV p D h X)) h X = oV p (gD D h (tV p D h X)) h (gD D h (tV p D h X) h) := by rw [hD'h]; rfl
  rw [hB'] at hX'
  clear hB' hD'h hX hns hA
  generalize gD D h (tV p D h X) = E at hX' hA' hDn ⊢
  have hI := hA'.1
  have hpb := hI.2.2.2.1
  have hp4 := p4 hh
  refine Ok.go (e := me_66) rfl rfl (Nat.le_of_ble_eq_true rfl) hTc ?_
  generalize hpost : (fun (r : Option Value) (M1 : Me) => rok me_66.2.2.2.1 r = true ∧ r = none ∧ ∃ I1 J1, M1 = St M I1 J1 ∧ TwA I1 T p (h + 1) E ∧ ∀ a, (a < T ∨ T + 9 ≤ a) → I1 a = I a) = post
  refine Rf.go 100 [15] ?_
  refine And.intro hTc ?_
  refine And.intro (fun _ => ?_) (fun hb => absurd (by rw [show mI (St M I J) T (301 % 100) = nI h from hI.2.1]; exact decide_eq_true (nI_lt (b := 3) hh (by decide))) hb)
  refine And.intro hTc ⟨T + 1, hRb, ?_⟩
  refine And.intro hTc ?_
  refine And.intro ⟨hBc, by show inb (I T 1) (mH M (T + 1)).2 = true; rw [hI.2.1, hBl]; exact inb_n (by omega) (by omega)⟩ ⟨T + 2 + h, by show mR M (T + 1) (I T 1).toNatClampNeg = _; rw [hI.2.1, nI_clamp (by omega)]; exact hBr h hh, ?_⟩
  refine Wr.go (e_copy (d := d) hT hx rB hX') (by omega) (fun J0 => ?_)
  generalize hI0 : rwE I p E h (T + 2 + h) _ = I0
  have f0 : ∀ a, a ≠ T + 2 + h → I0 a = I a := fun a h1 => by rw [← hI0]; exact rwE_ne h1
  have hB0 : Re I0 p E h (T + 2 + h) (oV p E h (E h)) := by rw [← hI0]; exact Re_rwE
  have hTI0 : TwI I0 T p h E := hI.keep (f0 _ (by omega)) (f0 _ (by omega))
  clear hI0 hX'
  have fin : ∀ (I1 : Nat → Nat → Int32) (J1 : Nat → Nat → Int64), (∀ a, a ≠ T + 5 → a ≠ T + 7 → a ≠ T + 8 → I1 a = I0 a) → (∀ q, q / 4 < 64 → tabC h q → I1 (T + 5) q = nI (uP p E (q / 4 / 8) (q / 4 % 8) (q % 4))) → (∀ q, ¬ tabC h q → I1 (T + 5) q = I0 (T + 5) q) → Rf K (d + 2) mc_66 40 (lk [(0, .ref T)]) [] (St M I1 J1) post := by
    intro I1 J1 g1 g2 g3
    have e1 : I1 T 1 = nI h := by rw [g1 T (by omega) (by omega) (by omega)]; exact hTI0.2.1
    refine Rf.go 100 [] ?_
    refine And.intro rfl ?_
    refine And.intro hTc ?_
    refine And.intro hTc ?_
    rw [← hpost]
    have e2 : I1 T 1 + Int32.ofInt 1 = nI (h + 1) := by rw [e1]; exact nI_1 h
    have e3 : ∀ a, a ≠ T → u2 I1 T 1 (I1 T 1 + Int32.ofInt 1) a = I1 a := fun a ha => u2_ne ha
    have e4 : ∀ i, i ≠ 1 → u2 I1 T 1 (I1 T 1 + Int32.ofInt 1) T i = I0 T i := fun i hi => by rw [u2_at, if_neg hi, g1 T (by omega) (by omega) (by omega)]
    refine ⟨rfl, rfl, u2 I1 T 1 (I1 T 1 + Int32.ofInt 1), J1, rfl, ⟨⟨?_, ?_, by omega, hpb, fun i j hi hj hc m hm => ?_⟩, ?_, fun i hi => ?_, hDn, hA'.2.2.2.2⟩, fun a ha => ?_⟩
    · rw [e4 0 (by decide)]; exact hTI0.1
    · rw [u2_at, if_pos rfl, e2]
    · rw [e3 _ (by omega)]
      have hc8 := and_lt8 i hi j hj
      obtain ⟨-, -, -, q4⟩ := sp8 i hi j hj
      have d1 : ((i * 8 + j) * 4 + m) / 4 = i * 8 + j := by omega
      have d2 : ((i * 8 + j) * 4 + m) % 4 = m := by omega
      have d3 : (i * 8 + j) / 8 = i := by omega
      have d4 : (i * 8 + j) % 8 = j := by omega
      by_cases ht : ¬ (i &&& j) = 0 ∧ tb (i &&& j) = h
      · have hsp := spn_tb _ hc8 ht.1
        rw [ht.2] at hsp
        rw [g2 _ (by omega) (by unfold tabC; rw [d1, d2, d3, d4]; exact ⟨ht.1, ht.2, by omega⟩), d1, d2, d3, d4]
      · rw [g3 _ (by unfold tabC; rw [d1, d2, d3, d4]; exact fun q => ht ⟨q.1, q.2.1⟩)]
        refine hTI0.2.2.2.2 i j hi hj ?_ m hm
        rcases hc with q | q
        · exact Or.inl q
        · by_cases q0 : i &&& j = 0
          · exact Or.inl q0
          · exact Or.inr (by
              have : ¬ tb (i &&& j) = h := fun w => ht ⟨q0, w⟩
              omega)
    · obtain ⟨t, c, g, w1, w2, w3, w4⟩ := hA'.2.1
      exact ⟨t, c, g, by rw [e4 10 (by decide), f0 T (by omega)]; exact w1, by rw [e4 11 (by decide), f0 T (by omega)]; exact w2, by rw [e4 12 (by decide), f0 T (by omega)]; exact w3, w4⟩
    · by_cases e : i = h
      · subst e
        exact hB0.keep (by rw [e3 _ (by omega), g1 _ (by omega) (by omega) (by omega)])
      · exact (hA'.2.2.1 i (by omega)).keep (by rw [e3 _ (by omega), g1 _ (by omega) (by omega) (by omega), f0 _ (by omega)])
    · rw [e3 _ (by omega), g1 _ (by omega) (by omega) (by omega), f0 _ (by omega)]
  -- the loops
  have lp : ∀ i, i ≤ 8 → ∀ (I1 : Nat → Nat → Int32) (J1 : Nat → Nat → Int64), (∀ a, a ≠ T + 5 → a ≠ T + 7 → a ≠ T + 8 → I1 a = I0 a) → (∀ q, q / 4 < 8 * i → tabC h q → I1 (T + 5) q = nI (uP p E (q / 4 / 8) (q / 4 % 8) (q % 4))) → (∀ q, ¬ tabC h q → I1 (T + 5) q = I0 (T + 5) q) → Rf K (d + 2) mc_66 15 (lk [(2, .int (nI i)), (0, .ref T)]) [] (St M I1 J1) post := by
    refine for_up 8 (fun I1 J1 g1 g2 g3 => ?_) (fun i hi ih I1 J1 g1 g2 g3 => ?_)
    · refine Rf.go 100 [40] ?_
      refine And.intro (fun _ => ?_) (fun hb => (ge8n hb).elim)
      exact Rf.weak [(0, .ref T)] ⟨rfl, trivial⟩ (fin I1 J1 g1 g2 g3)
    · refine Rf.go 100 [20] ?_
      refine And.intro (fun hb => (ge8 hi hb).elim) (fun _ => ?_)
      refine Rf.weak [(3, .int (nI 0)), (2, .int (nI i)), (0, .ref T)] ⟨rfl, rfl, rfl, trivial⟩ ?_
      have mid : ∀ j, j ≤ 8 → ∀ (I1 : Nat → Nat → Int32) (J1 : Nat → Nat → Int64), (∀ a, a ≠ T + 5 → a ≠ T + 7 → a ≠ T + 8 → I1 a = I0 a) → (∀ q, q / 4 < 8 * i + j → tabC h q → I1 (T + 5) q = nI (uP p E (q / 4 / 8) (q / 4 % 8) (q % 4))) → (∀ q, ¬ tabC h q → I1 (T + 5) q = I0 (T + 5) q) → Rf K (d + 2) mc_66 20 (lk [(3, .int (nI j)), (2, .int (nI i)), (0, .ref T)]) [] (St M I1 J1) post := by
        refine for_up 8 (fun I1 J1 g1 g2 g3 => ?_) (fun j hj ihj I1 J1 g1 g2 g3 => ?_)
        · refine Rf.go 100 [15] ?_
          refine And.intro (fun _ => ?_) (fun hb => (ge8n hb).elim)
          exact Rf.weak [(2, .int (nI (i + 1))), (0, .ref T)] ⟨inc1 i, rfl, trivial⟩ (ih I1 J1 g1 g2 g3)
        · have hTI1 : TwI I1 T p h E := by
            refine ⟨by rw [g1 T (by omega) (by omega) (by omega)]; exact hTI0.1, by rw [g1 T (by omega) (by omega) (by omega)]; exact hTI0.2.1, hTI0.2.2.1, hpb, fun i' j' hi' hj' hc m hm => ?_⟩
            obtain ⟨-, -, -, q4⟩ := sp8 i' hi' j' hj'
            rw [g3 _ (fun q => ?_)]
            · exact hTI0.2.2.2.2 i' j' hi' hj' hc m hm
            · unfold tabC at q
              rw [show ((i' * 8 + j') * 4 + m) / 4 = i' * 8 + j' by omega, show (i' * 8 + j') / 8 = i' by omega, show (i' * 8 + j') % 8 = j' by omega] at q
              rcases hc with hc | hc
              · exact q.1 hc
              · omega
          have hB1 : Re I1 p E h (T + 2 + h) (oV p E h (E h)) := hB0.keep (g1 _ (by omega) (by omega) (by omega))
          have hc8 := and_lt8 i hi j hj
          have ew : Int32.ofInt 1 <<< (I1 T 1 &&& 31) = nI (2 ^ h) := by rw [hTI1.2.1]; exact shl1 h (by omega)
          have hho := hob_lt _ hc8
          have qn : ∀ q, q / 4 < 8 * i + (j + 1) → q / 4 < 8 * i + j ∨ (q / 4 / 8 = i ∧ q / 4 % 8 = j) := fun q hq => by omega
          refine Rf.go 100 [20] ?_
          refine And.intro (fun hb => (ge8 hj hb).elim) (fun _ => ?_)
          have qh := t_hob (K := K) (d := d) (M := St M I1 J1) hc8
          rw [← and8 i hi j hj] at qh
          refine qh.up (by omega) ?_
          rintro r M1 ⟨rfl, rfl⟩
          refine And.intro hTc ?_
          refine And.intro (fun hb => ?_) (fun hb => ?_)
          · have hb : ¬ nI (hob (i &&& j)) = Int32.ofInt 1 <<< (I1 T 1 &&& 31) := of_decide_eq_true hb
            rw [ew, nI_eq (by omega) (by omega), hob_iff _ hc8 h hh] at hb
            refine Rf.weak [(3, .int (nI (j + 1))), (2, .int (nI i)), (0, .ref T)] ⟨inc1 j, rfl, rfl, trivial⟩ (ihj I1 J1 g1 (fun q hq hc => ?_) g3)
            rcases qn q hq with w | w
            · exact g2 q w hc
            · refine absurd ?_ hb
              unfold tabC at hc
              rw [w.1, w.2] at hc
              exact ⟨hc.1, hc.2.1⟩
          · have hb : nI (hob (i &&& j)) = Int32.ofInt 1 <<< (I1 T 1 &&& 31) := Classical.not_not.mp (fun q => hb (decide_eq_true q))
            rw [ew, nI_eq (by omega) (by omega), hob_iff _ hc8 h hh] at hb
            refine (e_lup (d := d) (J := J1) hK hT hTI1 hh hi hj hB1).up (by omega) ?_
            rintro r M1 ⟨rfl, I2, J2, rfl, hU, f2⟩
            have hU2 : ∀ q, I2 (T + 5) q = upW (I1 (T + 5)) ((i * 8 + j) * 4) (2 ^ h) (fun m => nI (tV p E h ((TI p E h).mul ((TI p E h).mul (oV p E h (un (i % 2 ^ h))) (oV p E h (un (j % 2 ^ h)))) (oV p E h (E h))) m)) q := fun q => by rw [hU]
            have eu : ∀ m, uP p E i j m = tV p E h ((TI p E h).mul ((TI p E h).mul (oV p E h (un (i % 2 ^ h))) (oV p E h (un (j % 2 ^ h)))) (oV p E h (E h))) m := fun m => by
              unfold uP
              rw [if_neg hb.1, hb.2]
            refine Rf.weak [(3, .int (nI (j + 1))), (2, .int (nI i)), (0, .ref T)] ⟨inc1 j, rfl, rfl, trivial⟩ (ihj I2 J2 (fun a h1 h2 h3 => by rw [f2 a h1 h2 h3, g1 a h1 h2 h3]) (fun q hq hc => ?_) (fun q hc => ?_))
            · rw [hU2]
              unfold upW
              by_cases w : (i * 8 + j) * 4 ≤ q ∧ q < (i * 8 + j) * 4 + 2 ^ h
              · rw [if_pos w, show q / 4 / 8 = i by omega, show q / 4 % 8 = j by omega, eu, show q - (i * 8 + j) * 4 = q % 4 by omega]
              · rw [if_neg w]
                rcases qn q hq with w2 | w2
                · exact g2 q w2 hc
                · exact absurd hc.2.2 (by omega)
            · rw [hU2]
              unfold upW
              rw [if_neg (fun w => hc ?_)]
              · exact g3 q hc
              · unfold tabC
                rw [show q / 4 / 8 = i by omega, show q / 4 % 8 = j by omega]
                exact ⟨hb.1, hb.2, by omega⟩
      exact mid 0 (by omega) I1 J1 g1 (fun q hq => g2 q (by omega)) g3
  refine Rf.weak [(2, .int (nI 0)), (0, .ref T)] ⟨rfl, rfl, trivial⟩ (lp 0 (by omega) I0 J0 (fun _ _ _ _ => rfl) (fun q hq => absurd hq (by omega)) (fun _ _ => rfl))
/-- what a root that is asked for does to the tower -/
theorem e_rootOrGrow [NeZero p] {X : TR p D h} (hK : Ksp K) (hT : TwM M T) (hA : TwA I T p h D) (hx : rc M x) (ho : rc M out) (hX : Re I p D h x X) (fx : x < T ∨ T + 24 ≤ x) (fo : out < T ∨ T + 24 ≤ out) : Ok K (d + 8) 64 [.ref T, .ref x, .ref out] (St M I J) (fun r M1 => ∃ I1 J1, M1 = St M I1 J1 ∧ (∀ a, a ≠ out → (a < T ∨ T + 24 ≤ a) → I1 a = I a) ∧ ((@Sq (TR p D h) (TI p D h) X ∧ r = some (.int (Int32.ofInt 0)) ∧ TwA I1 T p h D ∧ Re I1 p D h out (rtE p D h X)) ∨ (¬ @Sq (TR p D h) (TI p D h) X ∧ h = 3 ∧ r = some (.int (Int32.ofInt (-5))) ∧ TwA I1 T p h D) ∨ (¬ @Sq (TR p D h) (TI p D h) X ∧ h < 3 ∧ r = some (.int (Int32.ofInt 0)) ∧ TwA I1 T p (h + 1) (gD D h (tV p D h X)) ∧ Re I1 p (gD D h (tV p D h X)) (h + 1) out (oV p (gD D h (tV p D h X)) (h + 1) (un (2 ^ h)))))) := by
  have hTc := hT.1
  have hI := hA.1
  have hpb := hI.2.2.2.1
  have hh3 := hI.2.2.1
  have hD := hA.2.2.2.1
  have hp := hA.2.2.2.2.1
  have hodd := hA.2.2.2.2.2
  refine Ok.go (e := me_64) rfl rfl (Nat.le_of_ble_eq_true rfl) hTc ?_
  refine Rf.go 100 [] ?_
  refine And.intro hTc ?_
  have q1 := e_isSq (K := K) (d := d) (J := J) (X := X) hp hodd hK hT hI hD (Nat.le_refl h) hx hX
  rw [← hI.2.1] at q1
  refine q1.up (by omega) ?_
  rintro r M1 ⟨I1, J1, b, rfl, rfl, hb, f1⟩
  have hA1 : TwA I1 T p h D := hA.keep (fun a h1 h2 => f1 a (by omega) (by omega))
  have hX1 : Re I1 p D h x X := hX.keep (f1 x (by omega) (by omega))
  cases b with
  | true =>
    have hs := hb.mp rfl
    refine And.intro (fun hc => (eq1b hc).elim) (fun _ => ?_)
    refine And.intro hTc ?_
    have q2 := rootAt_ok hK hT h (Nat.le_refl h) d I1 J1 x out X hA1 hx ho hX1 hs (by omega) (by omega)
    rw [← hA1.1.2.1] at q2
    refine q2.up (by omega) ?_
    rintro r M1 ⟨rfl, I2, J2, Y, rfl, hY, hYY, f2⟩
    have hA2 : TwA I2 T p h D := hA1.keep (fun a h1 h2 => f2 a (by omega) (by omega) (by omega))
    refine (e_takeLesser (d := d) (J := J2) hT hA2.1 ho hY).up (by omega) ?_
    rintro r M1 ⟨rfl, I3, J3, rfl, hL, f3⟩
    refine ⟨rfl, I3, J3, rfl, fun a h1 h2 => by rw [f3 a h1, f2 a h1 (by omega) (by omega), f1 a (by omega) (by omega)], Or.inl ⟨hs, rfl, hA2.keep (fun a h1 h2 => f3 a (by omega)), ?_⟩⟩
    rw [← rtE_of hp hodd hh3 hD hYY]
    exact hL
  | false =>
    have hns : ¬ @Sq (TR p D h) (TI p D h) X := fun q => by cases hb.mpr q
    refine And.intro (fun _ => ?_) (fun hc => (eq0b hc).elim)
    refine And.intro hTc ?_
    refine And.intro (fun hc => ?_) (fun hc => ?_)
    · have hc : I1 T 1 < Int32.ofInt 3 := of_decide_eq_true hc
      rw [hA1.1.2.1] at hc
      have hh : h < 3 := (nI_ltI (b := 3) (by omega) (by decide)).mp hc
      refine (e_grow (d := d) (J := J1) hK hT hA1 hh hx hX1 hns).up (by omega) ?_
      rintro r M1 ⟨rfl, I2, J2, rfl, hA2, f2⟩
      refine And.intro hTc ?_
      have e9 : Int32.ofInt 1 <<< ((I2 T 1 - Int32.ofInt 1) &&& 31) = nI (2 ^ h) := by rw [hA2.1.2.1, show nI (h + 1) - Int32.ofInt 1 = nI h from nI_pred h]; exact shl1 h (by omega)
      have q3 := e_unit (p := p) (K := K) (d := d) (M := M) (I := I2) (J := J2) (D := gD D h (tV p D h X)) (out := out) (k := h + 1) (u := 2 ^ h) hT (by omega) (by omega) (by rw [Nat.pow_succ]; have := Nat.pow_pos (n := h) (show 0 < 2 by decide); omega) ho
      rw [← e9] at q3
      refine Wr.go q3 (by omega) (fun J3 => ?_)
      refine ⟨rfl, _, J3, rfl, fun a h1 h2 => ?_, Or.inr (Or.inr ⟨hns, hh, rfl, hA2.keep (fun a h1 h2 => rwE_ne (by omega)), Re_rwE⟩)⟩
      rw [rwE_ne h1, f2 a (by omega), f1 a (by omega) (by omega)]
    · have hc : ¬ I1 T 1 < Int32.ofInt 3 := fun q => hc (decide_eq_true q)
      rw [hA1.1.2.1] at hc
      have hh : ¬ h < 3 := fun q => hc (nI_lt (b := 3) q (by decide))
      exact ⟨rfl, I1, J1, rfl, fun a h1 h2 => f1 a (by omega) (by omega), Or.inr (Or.inl ⟨hns, by omega, rfl, hA1⟩)⟩
end Gw
