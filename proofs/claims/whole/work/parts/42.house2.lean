/-! House: printed by hgen.py -/
section H2
variable {K : Ka} {d o p h : Nat} {M : Me} {I : Nat → Nat → Int32} {J : Nat → Nat → Int64} {D : Nat → Nat → Nat}
set_option maxHeartbeats 4000000 in
theorem H22 [NeZero p] {s t d' : Nat} {z0 z1 : Int32} {S0 S1 T0 T1 : TR p D h} {post : Option Value → Me → Prop} (hK : Ksp K) (hM : HsM M o) (hA : TwA I (o + 1) p h D) (hz0 : z0 = nI s) (hz1 : z1 = nI t) (hs : s ≤ 60) (ht : t ≤ 60) (hS0 : Re I p D h (o + 26 + 3 * s + 0) S0) (hS1 : Re I p D h (o + 26 + 3 * s + 1) S1) (hT0 : Re I p D h (o + 26 + 3 * t + 0) T0) (hT1 : Re I p D h (o + 26 + 3 * t + 1) T1) (hd : d + 3 ≤ d') (hp : ∀ I1 J1, Re I1 p D h (o + 218) ((TI p D h).add ((TI p D h).mul S0 T0) ((TI p D h).mul S1 T1)) → (∀ a, a ≠ o + 217 → a ≠ o + 218 → I1 a = I a) → post none (St M I1 J1)) : Ok K d' 22 [.ref o, .int z0, .int z1] (St M I J) post := by
  refine Ok.up (d := d + 3) (post := post) ?_ hd (fun _ _ h => h)
  subst hz0 hz1
  refine Ok.go (e := me_22) rfl rfl (Nat.le_of_ble_eq_true rfl) hM.c ?_
  refine Rf.go 200 [] ?_
  refine And.intro hM.c ⟨o + 1, hM.r0, ?_⟩
  refine (h_row (K := K) (d := d) (t := s) (i := 0) hM (by omega) (by omega) rfl rfl).up (by omega) ?_
  rintro r M1 ⟨rfl, rfl⟩
  refine (h_row (K := K) (d := d) (t := t) (i := 0) hM (by omega) (by omega) rfl rfl).up (by omega) ?_
  rintro r M1 ⟨rfl, rfl⟩
  refine And.intro hM.c ⟨o + 218, hM.r11, ?_⟩
  refine Wr.go2 (e_mul (d := d) hK hM.tw hA.1 (hM.rc (by omega)) (hM.rc (by omega)) (hM.rc (by omega)) hS0 hT0) (by omega) (fun I1 J1 q1 f1 => ?_)
  refine And.intro hM.c ⟨o + 1, hM.r0, ?_⟩
  refine (h_row (K := K) (d := d) (t := s) (i := 1) hM (by omega) (by omega) rfl rfl).up (by omega) ?_
  rintro r M1 ⟨rfl, rfl⟩
  refine (h_row (K := K) (d := d) (t := t) (i := 1) hM (by omega) (by omega) rfl rfl).up (by omega) ?_
  rintro r M1 ⟨rfl, rfl⟩
  refine And.intro hM.c ⟨o + 217, hM.r10, ?_⟩
  have q2 := (hS1).keep (f1 _ (by omega))
  have q3 := (hT1).keep (f1 _ (by omega))
  have hA4 := (hA).keep (fun a h1 h2 => f1 a (by omega))
  refine Wr.go2 (e_mul (d := d) hK hM.tw hA4.1 (hM.rc (by omega)) (hM.rc (by omega)) (hM.rc (by omega)) q2 q3) (by omega) (fun I5 J5 q5 f5 => ?_)
  refine And.intro hM.c ⟨o + 1, hM.r0, ?_⟩
  refine And.intro hM.c ⟨o + 218, hM.r11, ?_⟩
  refine And.intro hM.c ⟨o + 217, hM.r10, ?_⟩
  refine And.intro hM.c ⟨o + 218, hM.r11, ?_⟩
  have q6 := (q1).keep (f5 _ (by omega))
  have hA7 := (hA4).keep (fun a h1 h2 => f5 a (by omega))
  refine Wr.go2 (e_addk (d := d)  hM.tw hA7.1 (hM.rc (by omega)) (hM.rc (by omega)) (hM.rc (by omega)) q6 q5) (by omega) (fun I8 J8 q8 f8 => ?_)
  exact ⟨rfl, hp I8 J8 q8 (fun a h1 h2 => (((f8 a (by omega)).trans (f5 a (by omega))).trans (f1 a (by omega))))⟩
set_option maxHeartbeats 4000000 in
theorem H23 [NeZero p] {s t out d' : Nat} {z0 z1 : Int32} {S0 S1 T0 T1 : TR p D h} {post : Option Value → Me → Prop} (hK : Ksp K) (hM : HsM M o) (hA : TwA I (o + 1) p h D) (hz0 : z0 = nI s) (hz1 : z1 = nI t) (ho2 : rc M out) (hs : s ≤ 60) (ht : t ≤ 60) (fo : o + 26 ≤ out) (hS0 : Re I p D h (o + 26 + 3 * s + 0) S0) (hS1 : Re I p D h (o + 26 + 3 * s + 1) S1) (hT0 : Re I p D h (o + 26 + 3 * t + 0) T0) (hT1 : Re I p D h (o + 26 + 3 * t + 1) T1) (hd : d + 3 ≤ d') (hp : ∀ I1 J1, Re I1 p D h (out) ((TI p D h).add ((TI p D h).mul ((TI p D h).sub S0 T0) ((TI p D h).sub S0 T0)) ((TI p D h).mul ((TI p D h).sub S1 T1) ((TI p D h).sub S1 T1))) → (∀ a, a ≠ o + 217 → a ≠ o + 218 → a ≠ out → I1 a = I a) → post none (St M I1 J1)) : Ok K d' 23 [.ref o, .int z0, .int z1, .ref out] (St M I J) post := by
  refine Ok.up (d := d + 3) (post := post) ?_ hd (fun _ _ h => h)
  subst hz0 hz1
  refine Ok.go (e := me_23) rfl rfl (Nat.le_of_ble_eq_true rfl) hM.c ?_
  refine Rf.go 200 [] ?_
  refine And.intro hM.c ⟨o + 1, hM.r0, ?_⟩
  refine (h_row (K := K) (d := d) (t := s) (i := 0) hM (by omega) (by omega) rfl rfl).up (by omega) ?_
  rintro r M1 ⟨rfl, rfl⟩
  refine (h_row (K := K) (d := d) (t := t) (i := 0) hM (by omega) (by omega) rfl rfl).up (by omega) ?_
  rintro r M1 ⟨rfl, rfl⟩
  refine And.intro hM.c ⟨o + 218, hM.r11, ?_⟩
  refine Wr.go2 (e_sub (d := d)  hM.tw hA.1 (hM.rc (by omega)) (hM.rc (by omega)) (hM.rc (by omega)) hS0 hT0) (by omega) (fun I1 J1 q1 f1 => ?_)
  refine And.intro hM.c ⟨o + 1, hM.r0, ?_⟩
  refine And.intro hM.c ⟨o + 218, hM.r11, ?_⟩
  refine And.intro hM.c ⟨o + 218, hM.r11, ?_⟩
  refine And.intro hM.c ⟨o + 218, hM.r11, ?_⟩
  have hA2 := (hA).keep (fun a h1 h2 => f1 a (by omega))
  refine Wr.go2 (e_mul (d := d) hK hM.tw hA2.1 (hM.rc (by omega)) (hM.rc (by omega)) (hM.rc (by omega)) q1 q1) (by omega) (fun I3 J3 q3 f3 => ?_)
  refine And.intro hM.c ⟨o + 1, hM.r0, ?_⟩
  refine (h_row (K := K) (d := d) (t := s) (i := 1) hM (by omega) (by omega) rfl rfl).up (by omega) ?_
  rintro r M1 ⟨rfl, rfl⟩
  refine (h_row (K := K) (d := d) (t := t) (i := 1) hM (by omega) (by omega) rfl rfl).up (by omega) ?_
  rintro r M1 ⟨rfl, rfl⟩
  refine And.intro hM.c ⟨o + 217, hM.r10, ?_⟩
  have q4 := ((hS1).keep (f1 _ (by omega))).keep (f3 _ (by omega))
  have q5 := ((hT1).keep (f1 _ (by omega))).keep (f3 _ (by omega))
  have hA6 := (hA2).keep (fun a h1 h2 => f3 a (by omega))
  refine Wr.go2 (e_sub (d := d)  hM.tw hA6.1 (hM.rc (by omega)) (hM.rc (by omega)) (hM.rc (by omega)) q4 q5) (by omega) (fun I7 J7 q7 f7 => ?_)
  refine And.intro hM.c ⟨o + 1, hM.r0, ?_⟩
  refine And.intro hM.c ⟨o + 217, hM.r10, ?_⟩
  refine And.intro hM.c ⟨o + 217, hM.r10, ?_⟩
  refine And.intro hM.c ⟨o + 217, hM.r10, ?_⟩
  have hA8 := (hA6).keep (fun a h1 h2 => f7 a (by omega))
  refine Wr.go2 (e_mul (d := d) hK hM.tw hA8.1 (hM.rc (by omega)) (hM.rc (by omega)) (hM.rc (by omega)) q7 q7) (by omega) (fun I9 J9 q9 f9 => ?_)
  refine And.intro hM.c ⟨o + 1, hM.r0, ?_⟩
  refine And.intro hM.c ⟨o + 218, hM.r11, ?_⟩
  refine And.intro hM.c ⟨o + 217, hM.r10, ?_⟩
  have q10 := ((q3).keep (f7 _ (by omega))).keep (f9 _ (by omega))
  have hA11 := (hA8).keep (fun a h1 h2 => f9 a (by omega))
  refine Wr.go2 (e_addk (d := d)  hM.tw hA11.1 (hM.rc (by omega)) (hM.rc (by omega)) ho2 q10 q9) (by omega) (fun I12 J12 q12 f12 => ?_)
  exact ⟨rfl, hp I12 J12 q12 (fun a h1 h2 h3 => (((((f12 a (by omega)).trans (f9 a (by omega))).trans (f7 a (by omega))).trans (f3 a (by omega))).trans (f1 a (by omega))))⟩
set_option maxHeartbeats 4000000 in
theorem H21 [NeZero p] {l d' : Nat} {z0 : Int32} {A B C : TR p D h} {post : Option Value → Me → Prop} (hK : Ksp K) (hM : HsM M o) (hA : TwA I (o + 1) p h D) (hz0 : z0 = nI l) (hl : l ≤ 60) (hA0 : Re I p D h (o + 26 + 3 * l + 0) A) (hB0 : Re I p D h (o + 26 + 3 * l + 1) B) (hC0 : Re I p D h (o + 26 + 3 * l + 2) C) (hd : d + 4 ≤ d') (hp : ∀ I1 J1, Re I1 p D h (o + 26 + 3 * l + 0) ((TI p D h).mul A (iv p D h (ldE p D h A B))) → Re I1 p D h (o + 26 + 3 * l + 1) ((TI p D h).mul B (iv p D h (ldE p D h A B))) → Re I1 p D h (o + 26 + 3 * l + 2) ((TI p D h).mul C (iv p D h (ldE p D h A B))) → (∀ a, a ≠ o + 26 + 3 * l + 0 → a ≠ o + 26 + 3 * l + 1 → a ≠ o + 26 + 3 * l + 2 → a ≠ o + 217 → a ≠ o + 8 → a ≠ o + 9 → a ≠ o + 10 → I1 a = I a) → post none (St M I1 J1)) : Ok K d' 21 [.ref o, .int z0] (St M I J) post := by
  refine Ok.up (d := d + 4) (post := post) ?_ hd (fun _ _ h => h)
  subst hz0
  refine Ok.go (e := me_21) rfl rfl (Nat.le_of_ble_eq_true rfl) hM.c ?_
  refine Rf.go 300 [] ?_
  refine And.intro hM.c ⟨o + 1, hM.r0, ?_⟩
  refine (h_row (K := K) (d := d) (t := l) (i := 1) hM (by omega) (by omega) rfl rfl).up (by omega) ?_
  rintro r M1 ⟨rfl, rfl⟩
  refine (t_isZeroE (d := d) hM.tc (hM.rc (by omega)) hA.1.2.2.1 hA.1.2.2.2.1.2 hB0).up (by omega) ?_
  rintro r M1 ⟨rfl, (⟨z1, rfl⟩ | ⟨z1, rfl⟩)⟩
  · refine And.intro (fun hb => absurd hb (by decide)) (fun _ => ?_)
    refine (h_row (K := K) (d := d) (t := l) (i := 0) hM (by omega) (by omega) rfl rfl).up (by omega) ?_
    rintro r M1 ⟨rfl, rfl⟩
    refine And.intro hM.c ⟨o + 1, hM.r0, ?_⟩
    refine And.intro hM.c ⟨o + 217, hM.r10, ?_⟩
    refine e_inv' (d := d) hK hM.tw hA (hM.rc (by omega)) (hM.rc (by omega)) hA0 (by omega) (fun I2 J2 q2 f2 => ?_)
    refine And.intro (fun hb => absurd hb (by decide)) (fun _ => ?_)
    refine And.intro hM.c ⟨o + 1, hM.r0, ?_⟩
    refine (h_row (K := K) (d := d) (t := l) (i := 0) hM (by omega) (by omega) rfl rfl).up (by omega) ?_
    rintro r M1 ⟨rfl, rfl⟩
    refine And.intro hM.c ⟨o + 217, hM.r10, ?_⟩
    refine (h_row (K := K) (d := d) (t := l) (i := 0) hM (by omega) (by omega) rfl rfl).up (by omega) ?_
    rintro r M1 ⟨rfl, rfl⟩
    have q3 := (hA0).keep (f2 _ (by omega) (by omega))
    have hA4 := (hA).keep (fun a h1 h2 => f2 a (by omega) (by omega))
    refine Wr.go2 (e_mul (d := d) hK hM.tw hA4.1 (hM.rc (by omega)) (hM.rc (by omega)) (hM.rc (by omega)) q3 q2) (by omega) (fun I5 J5 q5 f5 => ?_)
    refine And.intro (fun hb => absurd hb (by decide)) (fun _ => ?_)
    refine And.intro hM.c ⟨o + 1, hM.r0, ?_⟩
    refine (h_row (K := K) (d := d) (t := l) (i := 1) hM (by omega) (by omega) rfl (by decide)).up (by omega) ?_
    rintro r M1 ⟨rfl, rfl⟩
    refine And.intro hM.c ⟨o + 217, hM.r10, ?_⟩
    refine (h_row (K := K) (d := d) (t := l) (i := 1) hM (by omega) (by omega) rfl (by decide)).up (by omega) ?_
    rintro r M1 ⟨rfl, rfl⟩
    have q6 := ((hB0).keep (f2 _ (by omega) (by omega))).keep (f5 _ (by omega))
    have q7 := (q2).keep (f5 _ (by omega))
    have hA8 := (hA4).keep (fun a h1 h2 => f5 a (by omega))
    refine Wr.go2 (e_mul (d := d) hK hM.tw hA8.1 (hM.rc (by omega)) (hM.rc (by omega)) (hM.rc (by omega)) q6 q7) (by omega) (fun I9 J9 q9 f9 => ?_)
    refine And.intro (fun hb => absurd hb (by decide)) (fun _ => ?_)
    refine And.intro hM.c ⟨o + 1, hM.r0, ?_⟩
    refine (h_row (K := K) (d := d) (t := l) (i := 2) hM (by omega) (by omega) rfl (by decide)).up (by omega) ?_
    rintro r M1 ⟨rfl, rfl⟩
    refine And.intro hM.c ⟨o + 217, hM.r10, ?_⟩
    refine (h_row (K := K) (d := d) (t := l) (i := 2) hM (by omega) (by omega) rfl (by decide)).up (by omega) ?_
    rintro r M1 ⟨rfl, rfl⟩
    have q10 := (((hC0).keep (f2 _ (by omega) (by omega))).keep (f5 _ (by omega))).keep (f9 _ (by omega))
    have q11 := (q7).keep (f9 _ (by omega))
    have hA12 := (hA8).keep (fun a h1 h2 => f9 a (by omega))
    refine Wr.go2 (e_mul (d := d) hK hM.tw hA12.1 (hM.rc (by omega)) (hM.rc (by omega)) (hM.rc (by omega)) q10 q11) (by omega) (fun I13 J13 q13 f13 => ?_)
    refine And.intro (fun _ => ?_) (fun hb => absurd (by decide) hb)
    have q14 := ((q5).keep (f9 _ (by omega))).keep (f13 _ (by omega))
    have q15 := (q9).keep (f13 _ (by omega))
    exact ⟨rfl, hp I13 J13 (by simp only [ldE_t z1, sel_t z1]; exact q14) (by simp only [ldE_t z1, sel_t z1]; exact q15) (by simp only [ldE_t z1, sel_t z1]; exact q13) (fun a h1 h2 h3 h4 h5 h6 h7 => ((((f13 a (by omega)).trans (f9 a (by omega))).trans (f5 a (by omega))).trans (f2 a (by omega) (by omega))))⟩
  · refine And.intro (fun _ => ?_) (fun hb => absurd (by decide) hb)
    refine (h_row (K := K) (d := d) (t := l) (i := 1) hM (by omega) (by omega) rfl rfl).up (by omega) ?_
    rintro r M1 ⟨rfl, rfl⟩
    refine And.intro hM.c ⟨o + 1, hM.r0, ?_⟩
    refine And.intro hM.c ⟨o + 217, hM.r10, ?_⟩
    refine e_inv' (d := d) hK hM.tw hA (hM.rc (by omega)) (hM.rc (by omega)) hB0 (by omega) (fun I16 J16 q16 f16 => ?_)
    refine And.intro (fun hb => absurd hb (by decide)) (fun _ => ?_)
    refine And.intro hM.c ⟨o + 1, hM.r0, ?_⟩
    refine (h_row (K := K) (d := d) (t := l) (i := 0) hM (by omega) (by omega) rfl rfl).up (by omega) ?_
    rintro r M1 ⟨rfl, rfl⟩
    refine And.intro hM.c ⟨o + 217, hM.r10, ?_⟩
    refine (h_row (K := K) (d := d) (t := l) (i := 0) hM (by omega) (by omega) rfl rfl).up (by omega) ?_
    rintro r M1 ⟨rfl, rfl⟩
    have q17 := (hA0).keep (f16 _ (by omega) (by omega))
    have hA18 := (hA).keep (fun a h1 h2 => f16 a (by omega) (by omega))
    refine Wr.go2 (e_mul (d := d) hK hM.tw hA18.1 (hM.rc (by omega)) (hM.rc (by omega)) (hM.rc (by omega)) q17 q16) (by omega) (fun I19 J19 q19 f19 => ?_)
    refine And.intro (fun hb => absurd hb (by decide)) (fun _ => ?_)
    refine And.intro hM.c ⟨o + 1, hM.r0, ?_⟩
    refine (h_row (K := K) (d := d) (t := l) (i := 1) hM (by omega) (by omega) rfl (by decide)).up (by omega) ?_
    rintro r M1 ⟨rfl, rfl⟩
    refine And.intro hM.c ⟨o + 217, hM.r10, ?_⟩
    refine (h_row (K := K) (d := d) (t := l) (i := 1) hM (by omega) (by omega) rfl (by decide)).up (by omega) ?_
    rintro r M1 ⟨rfl, rfl⟩
    have q20 := ((hB0).keep (f16 _ (by omega) (by omega))).keep (f19 _ (by omega))
    have q21 := (q16).keep (f19 _ (by omega))
    have hA22 := (hA18).keep (fun a h1 h2 => f19 a (by omega))
    refine Wr.go2 (e_mul (d := d) hK hM.tw hA22.1 (hM.rc (by omega)) (hM.rc (by omega)) (hM.rc (by omega)) q20 q21) (by omega) (fun I23 J23 q23 f23 => ?_)
    refine And.intro (fun hb => absurd hb (by decide)) (fun _ => ?_)
    refine And.intro hM.c ⟨o + 1, hM.r0, ?_⟩
    refine (h_row (K := K) (d := d) (t := l) (i := 2) hM (by omega) (by omega) rfl (by decide)).up (by omega) ?_
    rintro r M1 ⟨rfl, rfl⟩
    refine And.intro hM.c ⟨o + 217, hM.r10, ?_⟩
    refine (h_row (K := K) (d := d) (t := l) (i := 2) hM (by omega) (by omega) rfl (by decide)).up (by omega) ?_
    rintro r M1 ⟨rfl, rfl⟩
    have q24 := (((hC0).keep (f16 _ (by omega) (by omega))).keep (f19 _ (by omega))).keep (f23 _ (by omega))
    have q25 := (q21).keep (f23 _ (by omega))
    have hA26 := (hA22).keep (fun a h1 h2 => f23 a (by omega))
    refine Wr.go2 (e_mul (d := d) hK hM.tw hA26.1 (hM.rc (by omega)) (hM.rc (by omega)) (hM.rc (by omega)) q24 q25) (by omega) (fun I27 J27 q27 f27 => ?_)
    refine And.intro (fun _ => ?_) (fun hb => absurd (by decide) hb)
    have q28 := ((q19).keep (f23 _ (by omega))).keep (f27 _ (by omega))
    have q29 := (q23).keep (f27 _ (by omega))
    exact ⟨rfl, hp I27 J27 (by simp only [ldE_f z1, sel_f z1]; exact q28) (by simp only [ldE_f z1, sel_f z1]; exact q29) (by simp only [ldE_f z1, sel_f z1]; exact q27) (fun a h1 h2 h3 h4 h5 h6 h7 => ((((f27 a (by omega)).trans (f23 a (by omega))).trans (f19 a (by omega))).trans (f16 a (by omega) (by omega))))⟩
end H2
