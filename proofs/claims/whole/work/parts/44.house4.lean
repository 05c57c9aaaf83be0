/-! House: printed by hgen.py -/
section H4
variable {K : Ka} {d o p h : Nat} {M : Me} {I : Nat → Nat → Int32} {J : Nat → Nat → Int64} {D : Nat → Nat → Nat}
theorem t_areSameE [NeZero p] {T x y k : Nat} {X Y : TR p D k} (hT : isC M T 3 = true) (hx : rc M x) (hy : rc M y) (hk : k ≤ 3) (hp : p ≤ 32749) (hX : Re I p D k x X) (hY : Re I p D k y Y) : Ok K (d + 1) 51 [.ref T, .ref x, .ref y] (St M I J) (fun r M1 => M1 = St M I J ∧ ((X = Y ∧ r = some (.int (Int32.ofInt 1))) ∨ (¬ X = Y ∧ r = some (.int (Int32.ofInt 0))))) := by
  refine (t_areSame hT hx hy).up (Nat.le_refl _) ?_
  rintro r M1 ⟨rfl, rfl⟩
  refine ⟨rfl, ?_⟩
  have hz := s8_el hk hp hX hY
  cases hb : s8 (I x) (I y) with
  | true => exact Or.inl ⟨hz.mp hb, rfl⟩
  | false => exact Or.inr ⟨fun q => (by rw [hz.mpr q] at hb; cases hb), rfl⟩
set_option maxHeartbeats 4000000 in
theorem H10_2 [NeZero p] {s t d' : Nat} {z0 z1 z2 : Int32} {S0 S1 T0 T1 : TR p D h} {post : Option Value → Me → Prop} (hK : Ksp K) (hM : HsM M o) (hA : TwA I (o + 1) p h D) (hz0 : z0 = nI s) (hz1 : z1 = nI t) (hz2 : z2 = nI 2) (hs : s ≤ 60) (ht : t ≤ 60) (hS0 : Re I p D h (o + 26 + 3 * s + 0) S0) (hS1 : Re I p D h (o + 26 + 3 * s + 1) S1) (hT0 : Re I p D h (o + 26 + 3 * t + 0) T0) (hT1 : Re I p D h (o + 26 + 3 * t + 1) T1) (hd : d + 3 ≤ d') (c1 : S0 = T0 → S1 = T1 → post (some (.int (Int32.ofInt 1))) (St M I J)) (c0 : ¬ (S0 = T0 ∧ S1 = T1) → post (some (.int (Int32.ofInt 0))) (St M I J)) : Ok K d' 10 [.ref o, .int z0, .int z1, .int z2] (St M I J) post := by
  refine Ok.up (d := d + 3) (post := post) ?_ hd (fun _ _ h => h)
  subst hz0 hz1 hz2
  refine Ok.go (e := me_10) rfl rfl (Nat.le_of_ble_eq_true rfl) hM.c ?_
  refine Rf.go 300 [] ?_
  refine And.intro (fun hb => absurd hb (by decide)) (fun _ => ?_)
  refine And.intro hM.c ⟨o + 1, hM.r0, ?_⟩
  refine (h_row (K := K) (d := d) (t := s) (i := 0) hM (by omega) (by omega) rfl rfl).up (by omega) ?_
  rintro r M1 ⟨rfl, rfl⟩
  refine (h_row (K := K) (d := d) (t := t) (i := 0) hM (by omega) (by omega) rfl rfl).up (by omega) ?_
  rintro r M1 ⟨rfl, rfl⟩
  refine (t_areSameE (d := d) hM.tc (hM.rc (by omega)) (hM.rc (by omega)) hA.1.2.2.1 hA.1.2.2.2.1.2 hS0 hT0).up (by omega) ?_
  rintro r M1 ⟨rfl, (⟨z1, rfl⟩ | ⟨z1, rfl⟩)⟩
  · refine And.intro (fun _ => ?_) (fun hb => absurd (by decide) hb)
    refine And.intro (fun hb => absurd hb (by decide)) (fun _ => ?_)
    refine And.intro hM.c ⟨o + 1, hM.r0, ?_⟩
    refine (h_row (K := K) (d := d) (t := s) (i := 1) hM (by omega) (by omega) rfl (by decide)).up (by omega) ?_
    rintro r M1 ⟨rfl, rfl⟩
    refine (h_row (K := K) (d := d) (t := t) (i := 1) hM (by omega) (by omega) rfl (by decide)).up (by omega) ?_
    rintro r M1 ⟨rfl, rfl⟩
    refine (t_areSameE (d := d) hM.tc (hM.rc (by omega)) (hM.rc (by omega)) hA.1.2.2.1 hA.1.2.2.2.1.2 hS1 hT1).up (by omega) ?_
    rintro r M1 ⟨rfl, (⟨z2, rfl⟩ | ⟨z2, rfl⟩)⟩
    · refine And.intro (fun _ => ?_) (fun hb => absurd (by decide) hb)
      refine And.intro (fun _ => ?_) (fun hb => absurd (by decide) hb)
      exact ⟨rfl, c1 z1 z2⟩
    · refine And.intro (fun hb => absurd hb (by decide)) (fun _ => ?_)
      exact ⟨rfl, c0 (fun q => z2 q.2)⟩
  · refine And.intro (fun hb => absurd hb (by decide)) (fun _ => ?_)
    exact ⟨rfl, c0 (fun q => z1 q.1)⟩
set_option maxHeartbeats 4000000 in
theorem H10_3 [NeZero p] {s t d' : Nat} {z0 z1 z2 : Int32} {S0 S1 S2 T0 T1 T2 : TR p D h} {post : Option Value → Me → Prop} (hK : Ksp K) (hM : HsM M o) (hA : TwA I (o + 1) p h D) (hz0 : z0 = nI s) (hz1 : z1 = nI t) (hz2 : z2 = nI 3) (hs : s ≤ 60) (ht : t ≤ 60) (hS0 : Re I p D h (o + 26 + 3 * s + 0) S0) (hS1 : Re I p D h (o + 26 + 3 * s + 1) S1) (hS2 : Re I p D h (o + 26 + 3 * s + 2) S2) (hT0 : Re I p D h (o + 26 + 3 * t + 0) T0) (hT1 : Re I p D h (o + 26 + 3 * t + 1) T1) (hT2 : Re I p D h (o + 26 + 3 * t + 2) T2) (hd : d + 3 ≤ d') (c1 : S0 = T0 → S1 = T1 → S2 = T2 → post (some (.int (Int32.ofInt 1))) (St M I J)) (c0 : ¬ (S0 = T0 ∧ S1 = T1 ∧ S2 = T2) → post (some (.int (Int32.ofInt 0))) (St M I J)) : Ok K d' 10 [.ref o, .int z0, .int z1, .int z2] (St M I J) post := by
  refine Ok.up (d := d + 3) (post := post) ?_ hd (fun _ _ h => h)
  subst hz0 hz1 hz2
  refine Ok.go (e := me_10) rfl rfl (Nat.le_of_ble_eq_true rfl) hM.c ?_
  refine Rf.go 300 [] ?_
  refine And.intro (fun hb => absurd hb (by decide)) (fun _ => ?_)
  refine And.intro hM.c ⟨o + 1, hM.r0, ?_⟩
  refine (h_row (K := K) (d := d) (t := s) (i := 0) hM (by omega) (by omega) rfl rfl).up (by omega) ?_
  rintro r M1 ⟨rfl, rfl⟩
  refine (h_row (K := K) (d := d) (t := t) (i := 0) hM (by omega) (by omega) rfl rfl).up (by omega) ?_
  rintro r M1 ⟨rfl, rfl⟩
  refine (t_areSameE (d := d) hM.tc (hM.rc (by omega)) (hM.rc (by omega)) hA.1.2.2.1 hA.1.2.2.2.1.2 hS0 hT0).up (by omega) ?_
  rintro r M1 ⟨rfl, (⟨z1, rfl⟩ | ⟨z1, rfl⟩)⟩
  · refine And.intro (fun _ => ?_) (fun hb => absurd (by decide) hb)
    refine And.intro (fun hb => absurd hb (by decide)) (fun _ => ?_)
    refine And.intro hM.c ⟨o + 1, hM.r0, ?_⟩
    refine (h_row (K := K) (d := d) (t := s) (i := 1) hM (by omega) (by omega) rfl (by decide)).up (by omega) ?_
    rintro r M1 ⟨rfl, rfl⟩
    refine (h_row (K := K) (d := d) (t := t) (i := 1) hM (by omega) (by omega) rfl (by decide)).up (by omega) ?_
    rintro r M1 ⟨rfl, rfl⟩
    refine (t_areSameE (d := d) hM.tc (hM.rc (by omega)) (hM.rc (by omega)) hA.1.2.2.1 hA.1.2.2.2.1.2 hS1 hT1).up (by omega) ?_
    rintro r M1 ⟨rfl, (⟨z2, rfl⟩ | ⟨z2, rfl⟩)⟩
    · refine And.intro (fun _ => ?_) (fun hb => absurd (by decide) hb)
      refine And.intro (fun hb => absurd hb (by decide)) (fun _ => ?_)
      refine And.intro hM.c ⟨o + 1, hM.r0, ?_⟩
      refine (h_row (K := K) (d := d) (t := s) (i := 2) hM (by omega) (by omega) rfl (by decide)).up (by omega) ?_
      rintro r M1 ⟨rfl, rfl⟩
      refine (h_row (K := K) (d := d) (t := t) (i := 2) hM (by omega) (by omega) rfl (by decide)).up (by omega) ?_
      rintro r M1 ⟨rfl, rfl⟩
      refine (t_areSameE (d := d) hM.tc (hM.rc (by omega)) (hM.rc (by omega)) hA.1.2.2.1 hA.1.2.2.2.1.2 hS2 hT2).up (by omega) ?_
      rintro r M1 ⟨rfl, (⟨z3, rfl⟩ | ⟨z3, rfl⟩)⟩
      · refine And.intro (fun _ => ?_) (fun hb => absurd (by decide) hb)
        refine And.intro (fun _ => ?_) (fun hb => absurd (by decide) hb)
        exact ⟨rfl, c1 z1 z2 z3⟩
      · refine And.intro (fun hb => absurd hb (by decide)) (fun _ => ?_)
        exact ⟨rfl, c0 (fun q => z3 q.2.2)⟩
    · refine And.intro (fun hb => absurd hb (by decide)) (fun _ => ?_)
      exact ⟨rfl, c0 (fun q => z2 q.2.1)⟩
  · refine And.intro (fun hb => absurd hb (by decide)) (fun _ => ?_)
    exact ⟨rfl, c0 (fun q => z1 q.1)⟩
set_option maxHeartbeats 4000000 in
theorem H30_0 [NeZero p] { d' : Nat} {z0 : Int32} {LI CO : TR p D h} {post : Option Value → Me → Prop} (hK : Ksp K) (hM : HsM M o) (hA : TwA I (o + 1) p h D) (hz0 : z0 = nI 0) (hLI : Re I p D h (o + 213) LI) (hCO : Re I p D h (o + 214) CO) (hd : d + 4 ≤ d') (c1 : LI = ((TI p D h).ofNat 0).ofNat → CO = ((TI p D h).ofNat 0).ofNat → post (some (.int (Int32.ofInt (-3)))) (St M I J)) (c2 : LI = ((TI p D h).ofNat 0).ofNat → ¬ CO = ((TI p D h).ofNat 0).ofNat → post (some (.int (Int32.ofInt (-4)))) (St M I J)) (c3 : ¬ LI = ((TI p D h).ofNat 0).ofNat → ∀ I1 J1, Re I1 p D h (o + 216) ((TI p D h).neg ((TI p D h).mul CO (iv p D h LI))) → (∀ a, a ≠ o + 216 → a ≠ o + 8 → a ≠ o + 9 → a ≠ o + 10 → I1 a = I a) → post (some (.int (Int32.ofInt 0))) (St M I1 J1)) : Ok K d' 30 [.ref o, .int z0] (St M I J) post := by
  refine Ok.up (d := d + 4) (post := post) ?_ hd (fun _ _ h => h)
  subst hz0
  refine Ok.go (e := me_30) rfl rfl (Nat.le_of_ble_eq_true rfl) hM.c ?_
  refine Rf.go 300 [] ?_
  refine And.intro hM.c ⟨o + 1, hM.r0, ?_⟩
  refine And.intro hM.c ⟨o + 213, hM.r6, ?_⟩
  refine (t_isZeroE (d := d) hM.tc (hM.rc (by omega)) hA.1.2.2.1 hA.1.2.2.2.1.2 hLI).up (by omega) ?_
  rintro r M1 ⟨rfl, (⟨z1, rfl⟩ | ⟨z1, rfl⟩)⟩
  · refine And.intro (fun hb => absurd hb (by decide)) (fun _ => ?_)
    refine And.intro hM.c ⟨o + 1, hM.r0, ?_⟩
    refine And.intro hM.c ⟨o + 214, hM.r7, ?_⟩
    refine (t_isZeroE (d := d) hM.tc (hM.rc (by omega)) hA.1.2.2.1 hA.1.2.2.2.1.2 hCO).up (by omega) ?_
    rintro r M1 ⟨rfl, (⟨z2, rfl⟩ | ⟨z2, rfl⟩)⟩
    · refine And.intro (fun hb => absurd hb (by decide)) (fun _ => ?_)
      exact ⟨rfl, c1 z1 z2⟩
    · refine And.intro (fun _ => ?_) (fun hb => absurd (by decide) hb)
      exact ⟨rfl, c2 z1 z2⟩
  · refine And.intro (fun _ => ?_) (fun hb => absurd (by decide) hb)
    refine And.intro (fun _ => ?_) (fun hb => absurd (by decide) hb)
    refine And.intro hM.c ⟨o + 1, hM.r0, ?_⟩
    refine And.intro hM.c ⟨o + 214, hM.r7, ?_⟩
    refine And.intro hM.c ⟨o + 213, hM.r6, ?_⟩
    refine And.intro hM.c ⟨o + 216, hM.r9, ?_⟩
    refine e_div' (d := d) hK hM.tw hA (hM.rc (by omega)) (hM.rc (by omega)) (hM.rc (by omega)) hCO hLI (by omega) (by omega) (fun I3 J3 q3 f3 => ?_)
    refine And.intro hM.c ⟨o + 1, hM.r0, ?_⟩
    refine And.intro hM.c ⟨o + 216, hM.r9, ?_⟩
    refine And.intro hM.c ⟨o + 216, hM.r9, ?_⟩
    have hA4 := (hA).keep (fun a h1 h2 => f3 a (by omega) (by omega))
    refine Wr.go2 (e_neg (d := d) hM.tw hA4.1 (hM.rc (by omega)) (hM.rc (by omega)) q3) (by omega) (fun I5 J5 q5 f5 => ?_)
    exact ⟨rfl, c3 z1 I5 J5 q5 (fun a h1 h2 h3 h4 => ((f5 a (by omega)).trans (f3 a (by omega) (by omega))))⟩
set_option maxHeartbeats 4000000 in
theorem H30_1 [NeZero p] { d' : Nat} {z0 : Int32} {LI CO : TR p D h} {post : Option Value → Me → Prop} (hK : Ksp K) (hM : HsM M o) (hA : TwA I (o + 1) p h D) (hz0 : z0 = nI 1) (hLI : Re I p D h (o + 213) LI) (hCO : Re I p D h (o + 214) CO) (hd : d + 4 ≤ d') (c1 : LI = ((TI p D h).ofNat 0).ofNat → CO = ((TI p D h).ofNat 0).ofNat → post (some (.int (Int32.ofInt (-3)))) (St M I J)) (c2 : LI = ((TI p D h).ofNat 0).ofNat → ¬ CO = ((TI p D h).ofNat 0).ofNat → post (some (.int (Int32.ofInt (-4)))) (St M I J)) (c3 : ¬ LI = ((TI p D h).ofNat 0).ofNat → post (some (.int (Int32.ofInt (-4)))) (St M I J)) : Ok K d' 30 [.ref o, .int z0] (St M I J) post := by
  refine Ok.up (d := d + 4) (post := post) ?_ hd (fun _ _ h => h)
  subst hz0
  refine Ok.go (e := me_30) rfl rfl (Nat.le_of_ble_eq_true rfl) hM.c ?_
  refine Rf.go 300 [] ?_
  refine And.intro hM.c ⟨o + 1, hM.r0, ?_⟩
  refine And.intro hM.c ⟨o + 213, hM.r6, ?_⟩
  refine (t_isZeroE (d := d) hM.tc (hM.rc (by omega)) hA.1.2.2.1 hA.1.2.2.2.1.2 hLI).up (by omega) ?_
  rintro r M1 ⟨rfl, (⟨z1, rfl⟩ | ⟨z1, rfl⟩)⟩
  · refine And.intro (fun hb => absurd hb (by decide)) (fun _ => ?_)
    refine And.intro hM.c ⟨o + 1, hM.r0, ?_⟩
    refine And.intro hM.c ⟨o + 214, hM.r7, ?_⟩
    refine (t_isZeroE (d := d) hM.tc (hM.rc (by omega)) hA.1.2.2.1 hA.1.2.2.2.1.2 hCO).up (by omega) ?_
    rintro r M1 ⟨rfl, (⟨z2, rfl⟩ | ⟨z2, rfl⟩)⟩
    · refine And.intro (fun hb => absurd hb (by decide)) (fun _ => ?_)
      exact ⟨rfl, c1 z1 z2⟩
    · refine And.intro (fun _ => ?_) (fun hb => absurd (by decide) hb)
      exact ⟨rfl, c2 z1 z2⟩
  · refine And.intro (fun _ => ?_) (fun hb => absurd (by decide) hb)
    refine And.intro (fun hb => absurd hb (by decide)) (fun _ => ?_)
    exact ⟨rfl, c3 z1⟩
set_option maxHeartbeats 4000000 in
theorem H31_0 [NeZero p] { d' : Nat} {z0 : Int32} {X0 QU LI CO : TR p D h} {post : Option Value → Me → Prop} (hK : Ksp K) (hM : HsM M o) (hA : TwA I (o + 1) p h D) (hz0 : z0 = nI 0) (hQU : Re I p D h (o + 212) QU) (hLI : Re I p D h (o + 213) LI) (hCO : Re I p D h (o + 214) CO) (hX0 : X0 = ((TI p D h).sub ((TI p D h).mul LI LI) ((TI p D h).add ((TI p D h).add ((TI p D h).mul QU CO) ((TI p D h).mul QU CO)) ((TI p D h).add ((TI p D h).mul QU CO) ((TI p D h).mul QU CO))))) (hd : d + 9 ≤ d') (c1 : RtC p D h X0 → ∀ I1 J1, TwA I1 (o + 1) p (gH p D h X0) (gB p D h X0) → Re I1 p (gB p D h X0) (gH p D h X0) (o + 216) ((TI p (gB p D h X0) (gH p D h X0)).mul ((TI p (gB p D h X0) (gH p D h X0)).sub ((TI p (gB p D h X0) (gH p D h X0)).neg (oV p (gB p D h X0) (gH p D h X0) (rV p D h X0))) (cv p D h (gB p D h X0) (gH p D h X0) LI)) (iv p (gB p D h X0) (gH p D h X0) ((TI p (gB p D h X0) (gH p D h X0)).add (cv p D h (gB p D h X0) (gH p D h X0) QU) (cv p D h (gB p D h X0) (gH p D h X0) QU)))) → (∀ a, (a < o + 1 ∨ o + 25 ≤ a) → a ≠ o + 215 → a ≠ o + 216 → a ≠ o + 217 → a ≠ o + 218 → I1 a = I a) → post (some (.int (Int32.ofInt 0))) (St M I1 J1)) (c2 : ¬ RtC p D h X0 → ∀ I1 J1, TwA I1 (o + 1) p h D → (∀ a, (a < o + 1 ∨ o + 25 ≤ a) → a ≠ o + 215 → a ≠ o + 216 → a ≠ o + 217 → a ≠ o + 218 → I1 a = I a) → post (some (.int (Int32.ofInt (-5)))) (St M I1 J1)) : Ok K d' 31 [.ref o, .int z0] (St M I J) post := by
  refine Ok.up (d := d + 9) (post := post) ?_ hd (fun _ _ h => h)
  subst hz0
  refine Ok.go (e := me_31) rfl rfl (Nat.le_of_ble_eq_true rfl) hM.c ?_
  refine Rf.go 300 [] ?_
  refine And.intro hM.c ⟨o + 1, hM.r0, ?_⟩
  refine And.intro hM.c ⟨o + 212, hM.r5, ?_⟩
  refine And.intro hM.c ⟨o + 214, hM.r7, ?_⟩
  refine And.intro hM.c ⟨o + 217, hM.r10, ?_⟩
  refine Wr.go2 (e_mul (d := d) hK hM.tw hA.1 (hM.rc (by omega)) (hM.rc (by omega)) (hM.rc (by omega)) hQU hCO) (by omega) (fun I1 J1 q1 f1 => ?_)
  refine And.intro hM.c ⟨o + 1, hM.r0, ?_⟩
  refine And.intro hM.c ⟨o + 217, hM.r10, ?_⟩
  refine And.intro hM.c ⟨o + 1, hM.r0, ?_⟩
  refine And.intro hM.tc ?_
  have hA2 := (hA).keep (fun a h1 h2 => f1 a (by omega))
  refine And.intro (show ¬ I1 (o + 1) 0 = 0 by rw [hA2.1.1]; exact nI_ne0 (by have := hA2.1.2.2.2.1; omega) (by have := hA2.1.2.2.2.1; omega)) ?_
  refine And.intro hM.c ⟨o + 217, hM.r10, ?_⟩
  refine Wr.go2 (e_sc4 (d := d) hM.tw hA2 (hM.rc (by omega)) (hM.rc (by omega)) q1) (by omega) (fun I3 J3 q3 f3 => ?_)
  refine And.intro hM.c ⟨o + 1, hM.r0, ?_⟩
  refine And.intro hM.c ⟨o + 213, hM.r6, ?_⟩
  refine And.intro hM.c ⟨o + 213, hM.r6, ?_⟩
  refine And.intro hM.c ⟨o + 218, hM.r11, ?_⟩
  have q4 := ((hLI).keep (f1 _ (by omega))).keep (f3 _ (by omega))
  have hA5 := (hA2).keep (fun a h1 h2 => f3 a (by omega))
  refine Wr.go2 (e_mul (d := d) hK hM.tw hA5.1 (hM.rc (by omega)) (hM.rc (by omega)) (hM.rc (by omega)) q4 q4) (by omega) (fun I6 J6 q6 f6 => ?_)
  refine And.intro hM.c ⟨o + 1, hM.r0, ?_⟩
  refine And.intro hM.c ⟨o + 218, hM.r11, ?_⟩
  refine And.intro hM.c ⟨o + 217, hM.r10, ?_⟩
  refine And.intro hM.c ⟨o + 218, hM.r11, ?_⟩
  have q7 := (q3).keep (f6 _ (by omega))
  have hA8 := (hA5).keep (fun a h1 h2 => f6 a (by omega))
  refine Wr.go2 (e_sub (d := d)  hM.tw hA8.1 (hM.rc (by omega)) (hM.rc (by omega)) (hM.rc (by omega)) q6 q7) (by omega) (fun I9 J9 q9 f9 => ?_)
  rw [← hX0] at q9
  refine And.intro hM.c ⟨o + 1, hM.r0, ?_⟩
  refine And.intro hM.c ⟨o + 218, hM.r11, ?_⟩
  have hA10 := (hA8).keep (fun a h1 h2 => f9 a (by omega))
  refine (t_isZeroE (d := d) hM.tc (hM.rc (by omega)) hA10.1.2.2.1 hA10.1.2.2.2.1.2 q9).up (by omega) ?_
  rintro r M1 ⟨rfl, (⟨z11, rfl⟩ | ⟨z11, rfl⟩)⟩
  · refine And.intro (fun hb => absurd hb (by decide)) (fun _ => ?_)
    refine And.intro (fun _ => ?_) (fun hb => absurd (by decide) hb)
    refine And.intro hM.c ⟨o + 1, hM.r0, ?_⟩
    refine And.intro hM.c ⟨o + 218, hM.r11, ?_⟩
    refine And.intro hM.c ⟨o + 215, hM.r8, ?_⟩
    refine e_root' (d := d) hK hM.tw hA10 (hM.rc (by omega)) (hM.rc (by omega)) q9 (by omega) (by omega) (by omega) (fun c13 I12 J12 hA14 q12 f12 => ?_) (fun c13 I12 J12 hA14 f12 => ?_)
    · refine And.intro (fun _ => ?_) (fun hb => absurd (by decide) hb)
      refine And.intro (fun hb => absurd hb (by decide)) (fun _ => ?_)
      refine And.intro hM.c ⟨o + 1, hM.r0, ?_⟩
      refine And.intro hM.c ⟨o + 215, hM.r8, ?_⟩
      refine And.intro hM.c ⟨o + 215, hM.r8, ?_⟩
      refine Wr.go2 (e_neg (d := d) hM.tw hA14.1 (hM.rc (by omega)) (hM.rc (by omega)) q12) (by omega) (fun I15 J15 q15 f15 => ?_)
      refine And.intro hM.c ⟨o + 1, hM.r0, ?_⟩
      refine And.intro hM.c ⟨o + 215, hM.r8, ?_⟩
      refine And.intro hM.c ⟨o + 213, hM.r6, ?_⟩
      refine And.intro hM.c ⟨o + 216, hM.r9, ?_⟩
      have q16 := (((((Re.cv (D' := (gB p D h X0)) (h := (gH p D h X0)) gH_le.1 q4)).keep (f6 _ (by omega))).keep (f9 _ (by omega))).keep (f12 _ (by omega) (by omega))).keep (f15 _ (by omega))
      have hA17 := (hA14).keep (fun a h1 h2 => f15 a (by omega))
      refine Wr.go2 (e_sub (d := d)  hM.tw hA17.1 (hM.rc (by omega)) (hM.rc (by omega)) (hM.rc (by omega)) q15 q16) (by omega) (fun I18 J18 q18 f18 => ?_)
      refine And.intro hM.c ⟨o + 1, hM.r0, ?_⟩
      refine And.intro hM.c ⟨o + 212, hM.r5, ?_⟩
      refine And.intro hM.c ⟨o + 217, hM.r10, ?_⟩
      have q19 := ((((((((Re.cv (D' := (gB p D h X0)) (h := (gH p D h X0)) gH_le.1 hQU)).keep (f1 _ (by omega))).keep (f3 _ (by omega))).keep (f6 _ (by omega))).keep (f9 _ (by omega))).keep (f12 _ (by omega) (by omega))).keep (f15 _ (by omega))).keep (f18 _ (by omega))
      have hA20 := (hA17).keep (fun a h1 h2 => f18 a (by omega))
      refine Wr.go2 (e_sc2 (d := d) hM.tw hA20.1 (hM.rc (by omega)) (hM.rc (by omega)) q19) (by omega) (fun I21 J21 q21 f21 => ?_)
      refine And.intro hM.c ⟨o + 1, hM.r0, ?_⟩
      refine And.intro hM.c ⟨o + 216, hM.r9, ?_⟩
      refine And.intro hM.c ⟨o + 217, hM.r10, ?_⟩
      refine And.intro hM.c ⟨o + 216, hM.r9, ?_⟩
      have q22 := (q18).keep (f21 _ (by omega))
      have hA23 := (hA20).keep (fun a h1 h2 => f21 a (by omega))
      refine e_div' (d := d) hK hM.tw hA23 (hM.rc (by omega)) (hM.rc (by omega)) (hM.rc (by omega)) q22 q21 (by omega) (by omega) (fun I24 J24 q24 f24 => ?_)
      have hA25 := (hA23).keep (fun a h1 h2 => f24 a (by omega) (by omega))
      exact ⟨rfl, c1  c13 I24 J24 hA25 q24 (fun a h1 h2 h3 h4 h5 => (((((((((f24 a (by omega) (by omega)).trans (f21 a (by omega))).trans (f18 a (by omega))).trans (f15 a (by omega))).trans (f12 a (by omega) (by omega))).trans (f9 a (by omega))).trans (f6 a (by omega))).trans (f3 a (by omega))).trans (f1 a (by omega))))⟩
    · refine And.intro (fun hb => absurd hb (by decide)) (fun _ => ?_)
      exact ⟨rfl, c2  c13 I12 J12 hA14 (fun a h1 h2 h3 h4 h5 => (((((f12 a (by omega) (by omega)).trans (f9 a (by omega))).trans (f6 a (by omega))).trans (f3 a (by omega))).trans (f1 a (by omega))))⟩
  · refine And.intro (fun _ => ?_) (fun hb => absurd (by decide) hb)
    refine And.intro hM.c ⟨o + 1, hM.r0, ?_⟩
    refine And.intro hM.c ⟨o + 218, hM.r11, ?_⟩
    refine And.intro hM.c ⟨o + 215, hM.r8, ?_⟩
    refine e_root' (d := d) hK hM.tw hA10 (hM.rc (by omega)) (hM.rc (by omega)) q9 (by omega) (by omega) (by omega) (fun c27 I26 J26 hA28 q26 f26 => ?_) (fun c27 I26 J26 hA28 f26 => ?_)
    · refine And.intro (fun _ => ?_) (fun hb => absurd (by decide) hb)
      refine And.intro (fun hb => absurd hb (by decide)) (fun _ => ?_)
      refine And.intro hM.c ⟨o + 1, hM.r0, ?_⟩
      refine And.intro hM.c ⟨o + 215, hM.r8, ?_⟩
      refine And.intro hM.c ⟨o + 215, hM.r8, ?_⟩
      refine Wr.go2 (e_neg (d := d) hM.tw hA28.1 (hM.rc (by omega)) (hM.rc (by omega)) q26) (by omega) (fun I29 J29 q29 f29 => ?_)
      refine And.intro hM.c ⟨o + 1, hM.r0, ?_⟩
      refine And.intro hM.c ⟨o + 215, hM.r8, ?_⟩
      refine And.intro hM.c ⟨o + 213, hM.r6, ?_⟩
      refine And.intro hM.c ⟨o + 216, hM.r9, ?_⟩
      have q30 := (((((Re.cv (D' := (gB p D h X0)) (h := (gH p D h X0)) gH_le.1 q4)).keep (f6 _ (by omega))).keep (f9 _ (by omega))).keep (f26 _ (by omega) (by omega))).keep (f29 _ (by omega))
      have hA31 := (hA28).keep (fun a h1 h2 => f29 a (by omega))
      refine Wr.go2 (e_sub (d := d)  hM.tw hA31.1 (hM.rc (by omega)) (hM.rc (by omega)) (hM.rc (by omega)) q29 q30) (by omega) (fun I32 J32 q32 f32 => ?_)
      refine And.intro hM.c ⟨o + 1, hM.r0, ?_⟩
      refine And.intro hM.c ⟨o + 212, hM.r5, ?_⟩
      refine And.intro hM.c ⟨o + 217, hM.r10, ?_⟩
      have q33 := ((((((((Re.cv (D' := (gB p D h X0)) (h := (gH p D h X0)) gH_le.1 hQU)).keep (f1 _ (by omega))).keep (f3 _ (by omega))).keep (f6 _ (by omega))).keep (f9 _ (by omega))).keep (f26 _ (by omega) (by omega))).keep (f29 _ (by omega))).keep (f32 _ (by omega))
      have hA34 := (hA31).keep (fun a h1 h2 => f32 a (by omega))
      refine Wr.go2 (e_sc2 (d := d) hM.tw hA34.1 (hM.rc (by omega)) (hM.rc (by omega)) q33) (by omega) (fun I35 J35 q35 f35 => ?_)
      refine And.intro hM.c ⟨o + 1, hM.r0, ?_⟩
      refine And.intro hM.c ⟨o + 216, hM.r9, ?_⟩
      refine And.intro hM.c ⟨o + 217, hM.r10, ?_⟩
      refine And.intro hM.c ⟨o + 216, hM.r9, ?_⟩
      have q36 := (q32).keep (f35 _ (by omega))
      have hA37 := (hA34).keep (fun a h1 h2 => f35 a (by omega))
      refine e_div' (d := d) hK hM.tw hA37 (hM.rc (by omega)) (hM.rc (by omega)) (hM.rc (by omega)) q36 q35 (by omega) (by omega) (fun I38 J38 q38 f38 => ?_)
      have hA39 := (hA37).keep (fun a h1 h2 => f38 a (by omega) (by omega))
      exact ⟨rfl, c1  c27 I38 J38 hA39 q38 (fun a h1 h2 h3 h4 h5 => (((((((((f38 a (by omega) (by omega)).trans (f35 a (by omega))).trans (f32 a (by omega))).trans (f29 a (by omega))).trans (f26 a (by omega) (by omega))).trans (f9 a (by omega))).trans (f6 a (by omega))).trans (f3 a (by omega))).trans (f1 a (by omega))))⟩
    · refine And.intro (fun hb => absurd hb (by decide)) (fun _ => ?_)
      exact ⟨rfl, c2  c27 I26 J26 hA28 (fun a h1 h2 h3 h4 h5 => (((((f26 a (by omega) (by omega)).trans (f9 a (by omega))).trans (f6 a (by omega))).trans (f3 a (by omega))).trans (f1 a (by omega))))⟩
set_option maxHeartbeats 4000000 in
theorem H31_1 [NeZero p] { d' : Nat} {z0 : Int32} {X0 QU LI CO : TR p D h} {post : Option Value → Me → Prop} (hK : Ksp K) (hM : HsM M o) (hA : TwA I (o + 1) p h D) (hz0 : z0 = nI 1) (hQU : Re I p D h (o + 212) QU) (hLI : Re I p D h (o + 213) LI) (hCO : Re I p D h (o + 214) CO) (hX0 : X0 = ((TI p D h).sub ((TI p D h).mul LI LI) ((TI p D h).add ((TI p D h).add ((TI p D h).mul QU CO) ((TI p D h).mul QU CO)) ((TI p D h).add ((TI p D h).mul QU CO) ((TI p D h).mul QU CO))))) (hd : d + 9 ≤ d') (c0 : X0 = ((TI p D h).ofNat 0).ofNat → ∀ I1 J1, (∀ a, a ≠ o + 217 → a ≠ o + 218 → I1 a = I a) → post (some (.int (Int32.ofInt (-4)))) (St M I1 J1)) (c1 : ¬ X0 = ((TI p D h).ofNat 0).ofNat → RtC p D h X0 → ∀ I1 J1, TwA I1 (o + 1) p (gH p D h X0) (gB p D h X0) → Re I1 p (gB p D h X0) (gH p D h X0) (o + 216) ((TI p (gB p D h X0) (gH p D h X0)).mul ((TI p (gB p D h X0) (gH p D h X0)).sub (oV p (gB p D h X0) (gH p D h X0) (rV p D h X0)) (cv p D h (gB p D h X0) (gH p D h X0) LI)) (iv p (gB p D h X0) (gH p D h X0) ((TI p (gB p D h X0) (gH p D h X0)).add (cv p D h (gB p D h X0) (gH p D h X0) QU) (cv p D h (gB p D h X0) (gH p D h X0) QU)))) → (∀ a, (a < o + 1 ∨ o + 25 ≤ a) → a ≠ o + 215 → a ≠ o + 216 → a ≠ o + 217 → a ≠ o + 218 → I1 a = I a) → post (some (.int (Int32.ofInt 0))) (St M I1 J1)) (c2 : ¬ X0 = ((TI p D h).ofNat 0).ofNat → ¬ RtC p D h X0 → ∀ I1 J1, TwA I1 (o + 1) p h D → (∀ a, (a < o + 1 ∨ o + 25 ≤ a) → a ≠ o + 215 → a ≠ o + 216 → a ≠ o + 217 → a ≠ o + 218 → I1 a = I a) → post (some (.int (Int32.ofInt (-5)))) (St M I1 J1)) : Ok K d' 31 [.ref o, .int z0] (St M I J) post := by
  refine Ok.up (d := d + 9) (post := post) ?_ hd (fun _ _ h => h)
  subst hz0
  refine Ok.go (e := me_31) rfl rfl (Nat.le_of_ble_eq_true rfl) hM.c ?_
  refine Rf.go 300 [] ?_
  refine And.intro hM.c ⟨o + 1, hM.r0, ?_⟩
  refine And.intro hM.c ⟨o + 212, hM.r5, ?_⟩
  refine And.intro hM.c ⟨o + 214, hM.r7, ?_⟩
  refine And.intro hM.c ⟨o + 217, hM.r10, ?_⟩
  refine Wr.go2 (e_mul (d := d) hK hM.tw hA.1 (hM.rc (by omega)) (hM.rc (by omega)) (hM.rc (by omega)) hQU hCO) (by omega) (fun I1 J1 q1 f1 => ?_)
  refine And.intro hM.c ⟨o + 1, hM.r0, ?_⟩
  refine And.intro hM.c ⟨o + 217, hM.r10, ?_⟩
  refine And.intro hM.c ⟨o + 1, hM.r0, ?_⟩
  refine And.intro hM.tc ?_
  have hA2 := (hA).keep (fun a h1 h2 => f1 a (by omega))
  refine And.intro (show ¬ I1 (o + 1) 0 = 0 by rw [hA2.1.1]; exact nI_ne0 (by have := hA2.1.2.2.2.1; omega) (by have := hA2.1.2.2.2.1; omega)) ?_
  refine And.intro hM.c ⟨o + 217, hM.r10, ?_⟩
  refine Wr.go2 (e_sc4 (d := d) hM.tw hA2 (hM.rc (by omega)) (hM.rc (by omega)) q1) (by omega) (fun I3 J3 q3 f3 => ?_)
  refine And.intro hM.c ⟨o + 1, hM.r0, ?_⟩
  refine And.intro hM.c ⟨o + 213, hM.r6, ?_⟩
  refine And.intro hM.c ⟨o + 213, hM.r6, ?_⟩
  refine And.intro hM.c ⟨o + 218, hM.r11, ?_⟩
  have q4 := ((hLI).keep (f1 _ (by omega))).keep (f3 _ (by omega))
  have hA5 := (hA2).keep (fun a h1 h2 => f3 a (by omega))
  refine Wr.go2 (e_mul (d := d) hK hM.tw hA5.1 (hM.rc (by omega)) (hM.rc (by omega)) (hM.rc (by omega)) q4 q4) (by omega) (fun I6 J6 q6 f6 => ?_)
  refine And.intro hM.c ⟨o + 1, hM.r0, ?_⟩
  refine And.intro hM.c ⟨o + 218, hM.r11, ?_⟩
  refine And.intro hM.c ⟨o + 217, hM.r10, ?_⟩
  refine And.intro hM.c ⟨o + 218, hM.r11, ?_⟩
  have q7 := (q3).keep (f6 _ (by omega))
  have hA8 := (hA5).keep (fun a h1 h2 => f6 a (by omega))
  refine Wr.go2 (e_sub (d := d)  hM.tw hA8.1 (hM.rc (by omega)) (hM.rc (by omega)) (hM.rc (by omega)) q6 q7) (by omega) (fun I9 J9 q9 f9 => ?_)
  rw [← hX0] at q9
  refine And.intro hM.c ⟨o + 1, hM.r0, ?_⟩
  refine And.intro hM.c ⟨o + 218, hM.r11, ?_⟩
  have hA10 := (hA8).keep (fun a h1 h2 => f9 a (by omega))
  refine (t_isZeroE (d := d) hM.tc (hM.rc (by omega)) hA10.1.2.2.1 hA10.1.2.2.2.1.2 q9).up (by omega) ?_
  rintro r M1 ⟨rfl, (⟨z11, rfl⟩ | ⟨z11, rfl⟩)⟩
  · refine And.intro (fun hb => absurd hb (by decide)) (fun _ => ?_)
    refine And.intro (fun hb => absurd hb (by decide)) (fun _ => ?_)
    exact ⟨rfl, c0 z11 I9 J9 (fun a h1 h2 => ((((f9 a (by omega)).trans (f6 a (by omega))).trans (f3 a (by omega))).trans (f1 a (by omega))))⟩
  · refine And.intro (fun _ => ?_) (fun hb => absurd (by decide) hb)
    refine And.intro hM.c ⟨o + 1, hM.r0, ?_⟩
    refine And.intro hM.c ⟨o + 218, hM.r11, ?_⟩
    refine And.intro hM.c ⟨o + 215, hM.r8, ?_⟩
    refine e_root' (d := d) hK hM.tw hA10 (hM.rc (by omega)) (hM.rc (by omega)) q9 (by omega) (by omega) (by omega) (fun c13 I12 J12 hA14 q12 f12 => ?_) (fun c13 I12 J12 hA14 f12 => ?_)
    · refine And.intro (fun _ => ?_) (fun hb => absurd (by decide) hb)
      refine And.intro (fun _ => ?_) (fun hb => absurd (by decide) hb)
      refine And.intro hM.c ⟨o + 1, hM.r0, ?_⟩
      refine And.intro hM.c ⟨o + 215, hM.r8, ?_⟩
      refine And.intro hM.c ⟨o + 213, hM.r6, ?_⟩
      refine And.intro hM.c ⟨o + 216, hM.r9, ?_⟩
      have q15 := ((((Re.cv (D' := (gB p D h X0)) (h := (gH p D h X0)) gH_le.1 q4)).keep (f6 _ (by omega))).keep (f9 _ (by omega))).keep (f12 _ (by omega) (by omega))
      refine Wr.go2 (e_sub (d := d)  hM.tw hA14.1 (hM.rc (by omega)) (hM.rc (by omega)) (hM.rc (by omega)) q12 q15) (by omega) (fun I16 J16 q16 f16 => ?_)
      refine And.intro hM.c ⟨o + 1, hM.r0, ?_⟩
      refine And.intro hM.c ⟨o + 212, hM.r5, ?_⟩
      refine And.intro hM.c ⟨o + 217, hM.r10, ?_⟩
      have q17 := (((((((Re.cv (D' := (gB p D h X0)) (h := (gH p D h X0)) gH_le.1 hQU)).keep (f1 _ (by omega))).keep (f3 _ (by omega))).keep (f6 _ (by omega))).keep (f9 _ (by omega))).keep (f12 _ (by omega) (by omega))).keep (f16 _ (by omega))
      have hA18 := (hA14).keep (fun a h1 h2 => f16 a (by omega))
      refine Wr.go2 (e_sc2 (d := d) hM.tw hA18.1 (hM.rc (by omega)) (hM.rc (by omega)) q17) (by omega) (fun I19 J19 q19 f19 => ?_)
      refine And.intro hM.c ⟨o + 1, hM.r0, ?_⟩
      refine And.intro hM.c ⟨o + 216, hM.r9, ?_⟩
      refine And.intro hM.c ⟨o + 217, hM.r10, ?_⟩
      refine And.intro hM.c ⟨o + 216, hM.r9, ?_⟩
      have q20 := (q16).keep (f19 _ (by omega))
      have hA21 := (hA18).keep (fun a h1 h2 => f19 a (by omega))
      refine e_div' (d := d) hK hM.tw hA21 (hM.rc (by omega)) (hM.rc (by omega)) (hM.rc (by omega)) q20 q19 (by omega) (by omega) (fun I22 J22 q22 f22 => ?_)
      have hA23 := (hA21).keep (fun a h1 h2 => f22 a (by omega) (by omega))
      exact ⟨rfl, c1 z11 c13 I22 J22 hA23 q22 (fun a h1 h2 h3 h4 h5 => ((((((((f22 a (by omega) (by omega)).trans (f19 a (by omega))).trans (f16 a (by omega))).trans (f12 a (by omega) (by omega))).trans (f9 a (by omega))).trans (f6 a (by omega))).trans (f3 a (by omega))).trans (f1 a (by omega))))⟩
    · refine And.intro (fun hb => absurd hb (by decide)) (fun _ => ?_)
      exact ⟨rfl, c2 z11 c13 I12 J12 hA14 (fun a h1 h2 h3 h4 h5 => (((((f12 a (by omega) (by omega)).trans (f9 a (by omega))).trans (f6 a (by omega))).trans (f3 a (by omega))).trans (f1 a (by omega))))⟩
end H4
