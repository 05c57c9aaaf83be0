/-! coefficient: the model, its end -/
section Ql
variable {K : Ka} {d o o2 m p h n : Nat} {M : Me} {I G : Nat → Nat → Int32} {J : Nat → Nat → Int64} {D : Nat → Nat → Nat} {kd : Nat → Nat} {tl : Nat → Nat → Int32} {V : Nat → Nat → Nat → Nat} {g : Nat → Nat} {s t u : Int32}
set_option maxHeartbeats 1000000 in
theorem m_coefficient' [NeZero p] {d' : Nat} {post : Option Value → Me → Prop} (hM : MoM M m) (hR : MR I m p D h n kd tl V g) (hd : d + 4 ≤ d') (hp : ∀ f G1 J1, post (some (.int (cfA p D h n kd V s t))) (St M (rg (rwA I (m + 16) f) m G1) J1)) : Ok K d' 157 [.ref m, .int s, .int t] (St M (rg I m G) J) post := by
  refine Ok.up (d := d + 4) (post := post) ?_ hd (fun _ _ h => h)
  obtain ⟨mA, mT, mS, mV, mB⟩ := hR
  have n6 := mT.2.1
  have hpo : isC M (m + 16) 10 = true ∧ (mH M (m + 16)).2 = 72 := hM.2.2.2.2.2.2.2
  have hp0 : ∀ G1 J1, post (some (.int (cfA p D h n kd V s t))) (St M (rg I m G1) J1) := fun G1 J1 => by
    have w := hp (I (m + 16)) G1 J1
    rw [rwA_self] at w
    exact w
  have no : ¬ (isT n kd s 0 ∧ ¬ t < 0) → cfA p D h n kd V s t = Int32.ofInt (-1) := fun q => if_neg q
  refine Ok.go (e := me_157) rfl rfl (Nat.le_of_ble_eq_true rfl) hM.c ?_
  refine Rf.go 100 [20] ?_
  refine m_isOf (d := d) (s := 0) hM mT.rg rfl (by decide) (by omega) (fun q => ?_) (fun q => ?_)
  · refine And.intro (fun w => absurd w (by decide)) (fun _ => ?_)
    refine And.intro (fun w => ?_) (fun w => ?_)
    · have w : ¬ t < 0 := fun v => absurd (of_decide_eq_true w) (Int32.not_le.mpr v)
      have e : cfA p D h n kd V s t = _ := if_pos ⟨q, w⟩
      obtain ⟨a, ha, rfl, qa⟩ := q
      obtain ⟨i, hi, rfl⟩ := nI_of w
      rw [clp_n (show a < 2 ^ 31 by omega), clp_n hi] at e
      rw [e] at hp hp0
      have hva := mV a ha 0 (by decide)
      obtain ⟨hL, hLh⟩ := lvN_Lev (D := D) hva.2.1 mA.1.2.2.1 mA.1.2.2.2.1.2
      obtain ⟨p1, p8⟩ := p2L (lvN_le (V a 0))
      refine m_conjs (d := d) hM mA rfl (by omega) (mV.v ha (by decide)) hL hLh (by omega) (fun G1 J1 hc => ?_)
      generalize oV p D h (V a 0) = X at hp hp0 hc
      generalize 2 ^ lvN (V a 0) = N at hp hp0 hc p1 p8
      refine And.intro (fun c => ?_) (fun c => ?_)
      · have c : nI i ≤ nI N := of_decide_eq_true c
        have c := (nI_leI hi (by omega)).mp c
        rw [if_neg (by omega)] at hp
        have main := m_coefL (K := K) (d := d) (N := N) (ii := i) (X := X) hM mA p8 c hp
        have init : ∀ j, j ≤ 72 → ∀ f, (∀ q, q < j → f q = if q = 0 then Int32.ofInt 1 else Int32.ofInt 0) → Rf K (d + 3) mc_157 20 (lk [(4, .int (nI j)), (3, .int (nI N)), (2, .int (nI i)), (0, .ref m)]) [] (St M (rg (rwA I (m + 16) f) m G1) J1) (fun r M1 => rok me_157.2.2.2.1 r = true ∧ post r M1) := by
          refine for_up 72 ?_ (fun j hj ih => ?_)
          · intro f hf
            refine Rf.go 100 [20, 36] ?_
            refine And.intro (fun _ => ?_) (fun q => absurd (by decide) q)
            refine Rf.weak [(4, .int (nI 0)), (3, .int (nI N)), (2, .int (nI i)), (0, .ref m)] ⟨rfl, rfl, rfl, rfl, trivial⟩ (main 0 (Nat.zero_le _) f G1 J1 (fun k hk j hj => ?_) hc)
            rw [hf _ (by omega)]
            show _ = nI (tV p D h (@ite _ (k = 0) _ ((TI p D h).ofNat 1).ofNat ((TI p D h).ofNat 0).ofNat) j)
            by_cases e : k = 0
            · rw [if_pos e, e, tV_one (by have := mA.1.2.2.2.1; omega)]
              by_cases e2 : j = 0
              · rw [if_pos (by omega), if_pos e2]
                rfl
              · rw [if_neg (by omega), if_neg e2]
                rfl
            · rw [if_neg e, tV_zero, if_neg (by omega)]
              rfl
          · intro f hf
            have put : ∀ x, x = (if j = 0 then Int32.ofInt 1 else Int32.ofInt 0) → Rf K (d + 3) mc_157 20 (lk [(4, .int (nI (j + 1))), (3, .int (nI N)), (2, .int (nI i)), (0, .ref m)]) [] (St M (u2 (rg (rwA I (m + 16) f) m G1) (m + 16) (nI j).toNatClampNeg x) J1) (fun r M1 => rok me_157.2.2.2.1 r = true ∧ post r M1) := by
              intro x hx
              rw [nI_clamp (by omega), rgA_u]
              refine ih _ (fun q hq => ?_)
              rw [va_i]
              by_cases e : q = j
              · rw [if_pos e, e]
                exact hx
              · rw [if_neg e]
                exact hf q (by omega)
            have ib : inb (nI j) (mH M (m + 16)).2 = true := by
              rw [hpo.2]
              exact inb_n hj (by omega)
            refine Rf.go 100 [20] ?_
            refine And.intro (fun q => absurd ((geN (n := 72) (by omega) (by decide)).mp q) (by omega)) (fun _ => ?_)
            refine And.intro hM.c ⟨m + 16, hM.r22, ?_⟩
            refine And.intro (fun q => ?_) (fun q => ?_)
            · have q : ¬ nI j = 0 := of_decide_eq_true q
              refine And.intro ⟨hpo.1, ib⟩ ?_
              exact Rf.weak [(4, .int (nI (j + 1))), (3, .int (nI N)), (2, .int (nI i)), (0, .ref m)] ⟨inc1 j, rfl, rfl, rfl, trivial⟩ (put _ (by rw [if_neg (fun w => q (by rw [w]; rfl))]))
            · have q : nI j = 0 := Classical.not_not.mp (fun w => q (decide_eq_true w))
              have q : j = 0 := (nI_eq (b := 0) (by omega) (by decide)).mp q
              refine And.intro ⟨hpo.1, ib⟩ ?_
              exact Rf.weak [(4, .int (nI (j + 1))), (3, .int (nI N)), (2, .int (nI i)), (0, .ref m)] ⟨inc1 j, rfl, rfl, rfl, trivial⟩ (put _ (by rw [if_pos q]))
        have w := init 0 (by omega) (I (m + 16)) (fun q hq => absurd hq (by omega))
        rw [rwA_self] at w
        exact Rf.weak [(4, .int (nI 0)), (3, .int (nI N)), (2, .int (nI i)), (0, .ref m)] ⟨rfl, rfl, rfl, rfl, trivial⟩ w
      · have c : ¬ i ≤ N := fun v => c (decide_eq_true (nI_le v (by omega)))
        rw [if_pos (by omega)] at hp0
        exact ⟨rfl, hp0 G1 J1⟩
    · have w : t < 0 := Int32.not_le.mp (fun v => w (decide_eq_true v))
      rw [no (fun v => v.2 w)] at hp0
      exact ⟨rfl, hp0 G J⟩
  · rw [no (fun v => q v.1)] at hp0
    exact And.intro (fun _ => ⟨rfl, hp0 G J⟩) (fun w => absurd (by decide) w)
theorem m_coefficient [NeZero p] {d' : Nat} {post : Option Value → Me → Prop} (hM : MoM M m) (hR : MR I m p D h n kd tl V g) (hd : d + 4 ≤ d') (hp : ∀ I1 J1, QfM I I1 m → post (some (.int (cfA p D h n kd V s t))) (St M I1 J1)) : Ok K d' 157 [.ref m, .int s, .int t] (St M I J) post := by
  have w := m_coefficient' (K := K) (d := d) (d' := d') (J := J) (post := post) (s := s) (t := t) (G := fun r j => I (m + 11) (8 * r + j)) hM hR hd (fun f G1 J1 => hp _ J1 (fun a h1 h2 => (rg_ne h1).trans (rwA_ne h2)))
  rw [rg_self] at w
  exact w
end Ql
