/-! House: printed by hgen.py -/
section H3
variable {K : Ka} {d o p h : Nat} {M : Me} {I : Nat → Nat → Int32} {J : Nat → Nat → Int64} {D : Nat → Nat → Nat}
set_option maxHeartbeats 4000000 in
theorem H20 [NeZero p] {l q d' : Nat} {z0 z1 : Int32} {A B X Y : TR p D h} {post : Option Value → Me → Prop} (hK : Ksp K) (hM : HsM M o) (hA : TwA I (o + 1) p h D) (hz0 : z0 = nI l) (hz1 : z1 = nI q) (hl : l ≤ 60) (hq : q ≤ 60) (hne : l ≠ q) (hA0 : Re I p D h (o + 26 + 3 * l + 0) A) (hB0 : Re I p D h (o + 26 + 3 * l + 1) B) (hX0 : Re I p D h (o + 26 + 3 * q + 0) X) (hY0 : Re I p D h (o + 26 + 3 * q + 1) Y) (hd : d + 5 ≤ d') (hp : ∀ I1 J1, Re I1 p D h (o + 26 + 3 * l + 0) ((TI p D h).mul A (iv p D h (ldE p D h A B))) → Re I1 p D h (o + 26 + 3 * l + 1) ((TI p D h).mul B (iv p D h (ldE p D h A B))) → Re I1 p D h (o + 26 + 3 * l + 2) ((TI p D h).mul ((TI p D h).neg ((TI p D h).add ((TI p D h).mul A X) ((TI p D h).mul B Y))) (iv p D h (ldE p D h A B))) → (∀ a, a ≠ o + 26 + 3 * l + 0 → a ≠ o + 26 + 3 * l + 1 → a ≠ o + 26 + 3 * l + 2 → a ≠ o + 217 → a ≠ o + 218 → a ≠ o + 8 → a ≠ o + 9 → a ≠ o + 10 → I1 a = I a) → post none (St M I1 J1)) : Ok K d' 20 [.ref o, .int z0, .int z1] (St M I J) post := by
  refine Ok.up (d := d + 5) (post := post) ?_ hd (fun _ _ h => h)
  subst hz0 hz1
  refine Ok.go (e := me_20) rfl rfl (Nat.le_of_ble_eq_true rfl) hM.c ?_
  refine Rf.go 200 [] ?_
  refine H22 (d := d) (s := l) (t := q) hK hM hA rfl rfl (by omega) (by omega) hA0 hB0 hX0 hY0 (by omega) (fun I1 J1 q1_0 f1 => ?_)
  refine And.intro hM.c ⟨o + 1, hM.r0, ?_⟩
  refine And.intro hM.c ⟨o + 218, hM.r11, ?_⟩
  refine (h_row (K := K) (d := d) (t := l) (i := 2) hM (by omega) (by omega) rfl rfl).up (by omega) ?_
  rintro r M1 ⟨rfl, rfl⟩
  have hA2 := (hA).keep (fun a h1 h2 => f1 a (by omega) (by omega))
  refine Wr.go2 (e_neg (d := d) hM.tw hA2.1 (hM.rc (by omega)) (hM.rc (by omega)) q1_0) (by omega) (fun I3 J3 q3 f3 => ?_)
  have q4 := ((hA0).keep (f1 _ (by omega) (by omega))).keep (f3 _ (by omega))
  have q5 := ((hB0).keep (f1 _ (by omega) (by omega))).keep (f3 _ (by omega))
  have hA6 := (hA2).keep (fun a h1 h2 => f3 a (by omega))
  refine H21 (d := d) (l := l) hK hM hA6 rfl (by omega) q4 q5 q3 (by omega) (fun I7 J7 q7_0 q7_1 q7_2 f7 => ?_)
  exact ⟨rfl, hp I7 J7 q7_0 q7_1 q7_2 (fun a h1 h2 h3 h4 h5 h6 h7 h8 => (((f7 a (by omega) (by omega) (by omega) (by omega) (by omega) (by omega) (by omega)).trans (f3 a (by omega))).trans (f1 a (by omega) (by omega))))⟩
set_option maxHeartbeats 4000000 in
theorem H19 [NeZero p] {t c a1 b1 d' : Nat} {z0 z1 z2 z3 : Int32} {C0 C1 S0 S1 T0 T1 : TR p D h} {post : Option Value → Me → Prop} (hK : Ksp K) (hM : HsM M o) (hA : TwA I (o + 1) p h D) (hz0 : z0 = nI t) (hz1 : z1 = nI c) (hz2 : z2 = nI a1) (hz3 : z3 = nI b1) (ht : t ≤ 60) (hc : c ≤ 60) (ha : a1 ≤ 60) (hb : b1 ≤ 60) (h1 : t ≠ c) (h2 : t ≠ a1) (h3 : t ≠ b1) (hC0 : Re I p D h (o + 26 + 3 * c + 0) C0) (hC1 : Re I p D h (o + 26 + 3 * c + 1) C1) (hS0 : Re I p D h (o + 26 + 3 * a1 + 0) S0) (hS1 : Re I p D h (o + 26 + 3 * a1 + 1) S1) (hT0 : Re I p D h (o + 26 + 3 * b1 + 0) T0) (hT1 : Re I p D h (o + 26 + 3 * b1 + 1) T1) (hd : d + 5 ≤ d') (hp : ∀ I1 J1, Re I1 p D h (o + 26 + 3 * t + 0) C0 → Re I1 p D h (o + 26 + 3 * t + 1) C1 → Re I1 p D h (o + 26 + 3 * t + 2) ((TI p D h).add ((TI p D h).mul ((TI p D h).sub S0 T0) ((TI p D h).sub S0 T0)) ((TI p D h).mul ((TI p D h).sub S1 T1) ((TI p D h).sub S1 T1))) → (∀ a, a ≠ o + 26 + 3 * t + 0 → a ≠ o + 26 + 3 * t + 1 → a ≠ o + 26 + 3 * t + 2 → a ≠ o + 217 → a ≠ o + 218 → I1 a = I a) → post none (St M I1 J1)) : Ok K d' 19 [.ref o, .int z0, .int z1, .int z2, .int z3] (St M I J) post := by
  refine Ok.up (d := d + 5) (post := post) ?_ hd (fun _ _ h => h)
  subst hz0 hz1 hz2 hz3
  refine Ok.go (e := me_19) rfl rfl (Nat.le_of_ble_eq_true rfl) hM.c ?_
  refine Rf.go 200 [] ?_
  refine And.intro hM.c ⟨o + 1, hM.r0, ?_⟩
  refine (h_row (K := K) (d := d) (t := c) (i := 0) hM (by omega) (by omega) rfl rfl).up (by omega) ?_
  rintro r M1 ⟨rfl, rfl⟩
  refine (h_row (K := K) (d := d) (t := t) (i := 0) hM (by omega) (by omega) rfl rfl).up (by omega) ?_
  rintro r M1 ⟨rfl, rfl⟩
  refine Wr.go2 (e_copy (d := d) hM.tw (hM.rc (by omega)) (hM.rc (by omega)) hC0) (by omega) (fun I1 J1 q1 f1 => ?_)
  refine And.intro hM.c ⟨o + 1, hM.r0, ?_⟩
  refine (h_row (K := K) (d := d) (t := c) (i := 1) hM (by omega) (by omega) rfl rfl).up (by omega) ?_
  rintro r M1 ⟨rfl, rfl⟩
  refine (h_row (K := K) (d := d) (t := t) (i := 1) hM (by omega) (by omega) rfl rfl).up (by omega) ?_
  rintro r M1 ⟨rfl, rfl⟩
  have q2 := (hC1).keep (f1 _ (by omega))
  have hA3 := (hA).keep (fun a h1 h2 => f1 a (by omega))
  refine Wr.go2 (e_copy (d := d) hM.tw (hM.rc (by omega)) (hM.rc (by omega)) q2) (by omega) (fun I4 J4 q4 f4 => ?_)
  refine (h_row (K := K) (d := d) (t := t) (i := 2) hM (by omega) (by omega) rfl rfl).up (by omega) ?_
  rintro r M1 ⟨rfl, rfl⟩
  have q5 := ((hS0).keep (f1 _ (by omega))).keep (f4 _ (by omega))
  have q6 := ((hS1).keep (f1 _ (by omega))).keep (f4 _ (by omega))
  have q7 := ((hT0).keep (f1 _ (by omega))).keep (f4 _ (by omega))
  have q8 := ((hT1).keep (f1 _ (by omega))).keep (f4 _ (by omega))
  have hA9 := (hA3).keep (fun a h1 h2 => f4 a (by omega))
  refine H23 (d := d) (s := a1) (t := b1) hK hM hA9 rfl rfl (hM.rc (by omega)) (by omega) (by omega) (by omega) q5 q6 q7 q8 (by omega) (fun I10 J10 q10_0 f10 => ?_)
  have q11 := ((q1).keep (f4 _ (by omega))).keep (f10 _ (by omega) (by omega) (by omega))
  have q12 := (q4).keep (f10 _ (by omega) (by omega) (by omega))
  exact ⟨rfl, hp I10 J10 q11 q12 q10_0 (fun a h1 h2 h3 h4 h5 => (((f10 a (by omega) (by omega) (by omega)).trans (f4 a (by omega))).trans (f1 a (by omega))))⟩
set_option maxHeartbeats 4000000 in
theorem H26 [NeZero p] {l m i j out d' : Nat} {z0 z1 z2 z3 : Int32} {LI MJ LJ MI : TR p D h} {post : Option Value → Me → Prop} (hK : Ksp K) (hM : HsM M o) (hA : TwA I (o + 1) p h D) (hz0 : z0 = nI l) (hz1 : z1 = nI m) (hz2 : z2 = nI i) (hz3 : z3 = nI j) (ho4 : rc M out) (hl : l ≤ 60) (hm : m ≤ 60) (hi : i < 3) (hj : j < 3) (fo : o + 26 ≤ out) (hLI : Re I p D h (o + 26 + 3 * l + i) LI) (hMJ : Re I p D h (o + 26 + 3 * m + j) MJ) (hLJ : Re I p D h (o + 26 + 3 * l + j) LJ) (hMI : Re I p D h (o + 26 + 3 * m + i) MI) (hd : d + 3 ≤ d') (hp : ∀ I1 J1, Re I1 p D h (out) ((TI p D h).sub ((TI p D h).mul LI MJ) ((TI p D h).mul LJ MI)) → (∀ a, a ≠ o + 217 → a ≠ o + 218 → a ≠ out → I1 a = I a) → post none (St M I1 J1)) : Ok K d' 26 [.ref o, .int z0, .int z1, .int z2, .int z3, .ref out] (St M I J) post := by
  refine Ok.up (d := d + 3) (post := post) ?_ hd (fun _ _ h => h)
  subst hz0 hz1 hz2 hz3
  refine Ok.go (e := me_26) rfl rfl (Nat.le_of_ble_eq_true rfl) hM.c ?_
  refine Rf.go 200 [] ?_
  refine And.intro hM.c ⟨o + 1, hM.r0, ?_⟩
  refine (h_row (K := K) (d := d) (t := l) (i := i) hM (by omega) (by omega) rfl rfl).up (by omega) ?_
  rintro r M1 ⟨rfl, rfl⟩
  refine (h_row (K := K) (d := d) (t := m) (i := j) hM (by omega) (by omega) rfl rfl).up (by omega) ?_
  rintro r M1 ⟨rfl, rfl⟩
  refine And.intro hM.c ⟨o + 218, hM.r11, ?_⟩
  refine Wr.go2 (e_mul (d := d) hK hM.tw hA.1 (hM.rc (by omega)) (hM.rc (by omega)) (hM.rc (by omega)) hLI hMJ) (by omega) (fun I1 J1 q1 f1 => ?_)
  refine And.intro hM.c ⟨o + 1, hM.r0, ?_⟩
  refine (h_row (K := K) (d := d) (t := l) (i := j) hM (by omega) (by omega) rfl rfl).up (by omega) ?_
  rintro r M1 ⟨rfl, rfl⟩
  refine (h_row (K := K) (d := d) (t := m) (i := i) hM (by omega) (by omega) rfl rfl).up (by omega) ?_
  rintro r M1 ⟨rfl, rfl⟩
  refine And.intro hM.c ⟨o + 217, hM.r10, ?_⟩
  have q2 := (hLJ).keep (f1 _ (by omega))
  have q3 := (hMI).keep (f1 _ (by omega))
  have hA4 := (hA).keep (fun a h1 h2 => f1 a (by omega))
  refine Wr.go2 (e_mul (d := d) hK hM.tw hA4.1 (hM.rc (by omega)) (hM.rc (by omega)) (hM.rc (by omega)) q2 q3) (by omega) (fun I5 J5 q5 f5 => ?_)
  refine And.intro hM.c ⟨o + 1, hM.r0, ?_⟩
  refine And.intro hM.c ⟨o + 218, hM.r11, ?_⟩
  refine And.intro hM.c ⟨o + 217, hM.r10, ?_⟩
  have q6 := (q1).keep (f5 _ (by omega))
  have hA7 := (hA4).keep (fun a h1 h2 => f5 a (by omega))
  refine Wr.go2 (e_sub (d := d)  hM.tw hA7.1 (hM.rc (by omega)) (hM.rc (by omega)) ho4 q6 q5) (by omega) (fun I8 J8 q8 f8 => ?_)
  exact ⟨rfl, hp I8 J8 q8 (fun a h1 h2 h3 => (((f8 a (by omega)).trans (f5 a (by omega))).trans (f1 a (by omega))))⟩
set_option maxHeartbeats 4000000 in
theorem H28 [NeZero p] {c out d' : Nat} {z0 : Int32} {C0 C1 C2 : TR p D h} {post : Option Value → Me → Prop} (hK : Ksp K) (hM : HsM M o) (hA : TwA I (o + 1) p h D) (hz0 : z0 = nI c) (ho1 : rc M out) (hc : c ≤ 60) (fo : o + 26 ≤ out) (hC0 : Re I p D h (o + 26 + 3 * c + 0) C0) (hC1 : Re I p D h (o + 26 + 3 * c + 1) C1) (hC2 : Re I p D h (o + 26 + 3 * c + 2) C2) (hd : d + 5 ≤ d') (hp : ∀ I1 J1, Re I1 p D h (out) ((TI p D h).sub ((TI p D h).add ((TI p D h).mul C0 C0) ((TI p D h).mul C1 C1)) C2) → (∀ a, a ≠ o + 217 → a ≠ o + 218 → a ≠ out → I1 a = I a) → post none (St M I1 J1)) : Ok K d' 28 [.ref o, .int z0, .ref out] (St M I J) post := by
  refine Ok.up (d := d + 5) (post := post) ?_ hd (fun _ _ h => h)
  subst hz0
  refine Ok.go (e := me_28) rfl rfl (Nat.le_of_ble_eq_true rfl) hM.c ?_
  refine Rf.go 200 [] ?_
  refine H22 (d := d) (s := c) (t := c) hK hM hA rfl rfl (by omega) (by omega) hC0 hC1 hC0 hC1 (by omega) (fun I1 J1 q1_0 f1 => ?_)
  refine And.intro hM.c ⟨o + 1, hM.r0, ?_⟩
  refine And.intro hM.c ⟨o + 218, hM.r11, ?_⟩
  refine (h_row (K := K) (d := d) (t := c) (i := 2) hM (by omega) (by omega) rfl rfl).up (by omega) ?_
  rintro r M1 ⟨rfl, rfl⟩
  have q2 := (hC2).keep (f1 _ (by omega) (by omega))
  have hA3 := (hA).keep (fun a h1 h2 => f1 a (by omega) (by omega))
  refine Wr.go2 (e_sub (d := d)  hM.tw hA3.1 (hM.rc (by omega)) (hM.rc (by omega)) ho1 q1_0 q2) (by omega) (fun I4 J4 q4 f4 => ?_)
  exact ⟨rfl, hp I4 J4 q4 (fun a h1 h2 h3 => ((f4 a (by omega)).trans (f1 a (by omega) (by omega))))⟩
set_option maxHeartbeats 4000000 in
theorem H27 [NeZero p] {g k d' : Nat} {z0 z1 : Int32} {G0 G1 G2 K0 K1 K2 : TR p D h} {post : Option Value → Me → Prop} (hK : Ksp K) (hM : HsM M o) (hA : TwA I (o + 1) p h D) (hz0 : z0 = nI g) (hz1 : z1 = nI k) (hg : g < 60) (hk : k < 60) (hG0 : Re I p D h (o + 26 + 3 * g + 0) G0) (hG1 : Re I p D h (o + 26 + 3 * g + 1) G1) (hG2 : Re I p D h (o + 26 + 3 * g + 2) G2) (hK0 : Re I p D h (o + 26 + 3 * k + 0) K0) (hK1 : Re I p D h (o + 26 + 3 * k + 1) K1) (hK2 : Re I p D h (o + 26 + 3 * k + 2) K2) (hd : d + 7 ≤ d') (hp : ∀ I1 J1, Re I1 p D h (o + 26 + 3 * 60 + 0) ((TI p D h).mul ((TI p D h).add ((TI p D h).sub K0 G0) ((TI p D h).sub K0 G0)) (iv p D h (ldE p D h ((TI p D h).add ((TI p D h).sub K0 G0) ((TI p D h).sub K0 G0)) ((TI p D h).add ((TI p D h).sub K1 G1) ((TI p D h).sub K1 G1))))) → Re I1 p D h (o + 26 + 3 * 60 + 1) ((TI p D h).mul ((TI p D h).add ((TI p D h).sub K1 G1) ((TI p D h).sub K1 G1)) (iv p D h (ldE p D h ((TI p D h).add ((TI p D h).sub K0 G0) ((TI p D h).sub K0 G0)) ((TI p D h).add ((TI p D h).sub K1 G1) ((TI p D h).sub K1 G1))))) → Re I1 p D h (o + 26 + 3 * 60 + 2) ((TI p D h).mul ((TI p D h).sub ((TI p D h).sub ((TI p D h).add ((TI p D h).mul G0 G0) ((TI p D h).mul G1 G1)) G2) ((TI p D h).sub ((TI p D h).add ((TI p D h).mul K0 K0) ((TI p D h).mul K1 K1)) K2)) (iv p D h (ldE p D h ((TI p D h).add ((TI p D h).sub K0 G0) ((TI p D h).sub K0 G0)) ((TI p D h).add ((TI p D h).sub K1 G1) ((TI p D h).sub K1 G1))))) → (∀ a, a ≠ o + 26 + 3 * 60 + 0 → a ≠ o + 26 + 3 * 60 + 1 → a ≠ o + 26 + 3 * 60 + 2 → a ≠ o + 216 → a ≠ o + 217 → a ≠ o + 218 → a ≠ o + 8 → a ≠ o + 9 → a ≠ o + 10 → I1 a = I a) → post none (St M I1 J1)) : Ok K d' 27 [.ref o, .int z0, .int z1] (St M I J) post := by
  refine Ok.up (d := d + 7) (post := post) ?_ hd (fun _ _ h => h)
  subst hz0 hz1
  refine Ok.go (e := me_27) rfl rfl (Nat.le_of_ble_eq_true rfl) hM.c ?_
  refine Rf.go 300 [] ?_
  refine And.intro (fun hb => absurd hb (by decide)) (fun _ => ?_)
  refine And.intro hM.c ⟨o + 1, hM.r0, ?_⟩
  refine (h_row (K := K) (d := d) (t := k) (i := 0) hM (by omega) (by omega) rfl rfl).up (by omega) ?_
  rintro r M1 ⟨rfl, rfl⟩
  refine (h_row (K := K) (d := d) (t := g) (i := 0) hM (by omega) (by omega) rfl rfl).up (by omega) ?_
  rintro r M1 ⟨rfl, rfl⟩
  refine And.intro hM.c ⟨o + 218, hM.r11, ?_⟩
  refine Wr.go2 (e_sub (d := d)  hM.tw hA.1 (hM.rc (by omega)) (hM.rc (by omega)) (hM.rc (by omega)) hK0 hG0) (by omega) (fun I1 J1 q1 f1 => ?_)
  refine And.intro hM.c ⟨o + 1, hM.r0, ?_⟩
  refine And.intro hM.c ⟨o + 218, hM.r11, ?_⟩
  refine (h_row (K := K) (d := d) (t := 60) (i := 0) hM (by omega) (by omega) rfl rfl).up (by omega) ?_
  rintro r M1 ⟨rfl, rfl⟩
  have hA2 := (hA).keep (fun a h1 h2 => f1 a (by omega))
  refine Wr.go2 (e_sc2 (d := d) hM.tw hA2.1 (hM.rc (by omega)) (hM.rc (by omega)) q1) (by omega) (fun I3 J3 q3 f3 => ?_)
  refine And.intro (fun hb => absurd hb (by decide)) (fun _ => ?_)
  refine And.intro hM.c ⟨o + 1, hM.r0, ?_⟩
  refine (h_row (K := K) (d := d) (t := k) (i := 1) hM (by omega) (by omega) rfl (by decide)).up (by omega) ?_
  rintro r M1 ⟨rfl, rfl⟩
  refine (h_row (K := K) (d := d) (t := g) (i := 1) hM (by omega) (by omega) rfl (by decide)).up (by omega) ?_
  rintro r M1 ⟨rfl, rfl⟩
  refine And.intro hM.c ⟨o + 218, hM.r11, ?_⟩
  have q4 := ((hK1).keep (f1 _ (by omega))).keep (f3 _ (by omega))
  have q5 := ((hG1).keep (f1 _ (by omega))).keep (f3 _ (by omega))
  have hA6 := (hA2).keep (fun a h1 h2 => f3 a (by omega))
  refine Wr.go2 (e_sub (d := d)  hM.tw hA6.1 (hM.rc (by omega)) (hM.rc (by omega)) (hM.rc (by omega)) q4 q5) (by omega) (fun I7 J7 q7 f7 => ?_)
  refine And.intro hM.c ⟨o + 1, hM.r0, ?_⟩
  refine And.intro hM.c ⟨o + 218, hM.r11, ?_⟩
  refine (h_row (K := K) (d := d) (t := 60) (i := 1) hM (by omega) (by omega) rfl (by decide)).up (by omega) ?_
  rintro r M1 ⟨rfl, rfl⟩
  have hA8 := (hA6).keep (fun a h1 h2 => f7 a (by omega))
  refine Wr.go2 (e_sc2 (d := d) hM.tw hA8.1 (hM.rc (by omega)) (hM.rc (by omega)) q7) (by omega) (fun I9 J9 q9 f9 => ?_)
  refine And.intro (fun _ => ?_) (fun hb => absurd (by decide) hb)
  refine (h_row (K := K) (d := d) (t := 60) (i := 2) hM (by omega) (by omega) rfl rfl).up (by omega) ?_
  rintro r M1 ⟨rfl, rfl⟩
  have q10 := ((((hG0).keep (f1 _ (by omega))).keep (f3 _ (by omega))).keep (f7 _ (by omega))).keep (f9 _ (by omega))
  have q11 := ((q5).keep (f7 _ (by omega))).keep (f9 _ (by omega))
  have q12 := ((((hG2).keep (f1 _ (by omega))).keep (f3 _ (by omega))).keep (f7 _ (by omega))).keep (f9 _ (by omega))
  have hA13 := (hA8).keep (fun a h1 h2 => f9 a (by omega))
  refine H28 (d := d) (c := g) hK hM hA13 rfl (hM.rc (by omega)) (by omega) (by omega) q10 q11 q12 (by omega) (fun I14 J14 q14_0 f14 => ?_)
  refine And.intro hM.c ⟨o + 216, hM.r9, ?_⟩
  have q15 := (((((hK0).keep (f1 _ (by omega))).keep (f3 _ (by omega))).keep (f7 _ (by omega))).keep (f9 _ (by omega))).keep (f14 _ (by omega) (by omega) (by omega))
  have q16 := (((q4).keep (f7 _ (by omega))).keep (f9 _ (by omega))).keep (f14 _ (by omega) (by omega) (by omega))
  have q17 := (((((hK2).keep (f1 _ (by omega))).keep (f3 _ (by omega))).keep (f7 _ (by omega))).keep (f9 _ (by omega))).keep (f14 _ (by omega) (by omega) (by omega))
  have hA18 := (hA13).keep (fun a h1 h2 => f14 a (by omega) (by omega) (by omega))
  refine H28 (d := d) (c := k) hK hM hA18 rfl (hM.rc (by omega)) (by omega) (by omega) q15 q16 q17 (by omega) (fun I19 J19 q19_0 f19 => ?_)
  refine And.intro hM.c ⟨o + 1, hM.r0, ?_⟩
  refine (h_row (K := K) (d := d) (t := 60) (i := 2) hM (by omega) (by omega) rfl rfl).up (by omega) ?_
  rintro r M1 ⟨rfl, rfl⟩
  refine And.intro hM.c ⟨o + 216, hM.r9, ?_⟩
  refine (h_row (K := K) (d := d) (t := 60) (i := 2) hM (by omega) (by omega) rfl rfl).up (by omega) ?_
  rintro r M1 ⟨rfl, rfl⟩
  have q20 := (q14_0).keep (f19 _ (by omega) (by omega) (by omega))
  have hA21 := (hA18).keep (fun a h1 h2 => f19 a (by omega) (by omega) (by omega))
  refine Wr.go2 (e_sub (d := d)  hM.tw hA21.1 (hM.rc (by omega)) (hM.rc (by omega)) (hM.rc (by omega)) q20 q19_0) (by omega) (fun I22 J22 q22 f22 => ?_)
  have q23 := (((((q3).keep (f7 _ (by omega))).keep (f9 _ (by omega))).keep (f14 _ (by omega) (by omega) (by omega))).keep (f19 _ (by omega) (by omega) (by omega))).keep (f22 _ (by omega))
  have q24 := (((q9).keep (f14 _ (by omega) (by omega) (by omega))).keep (f19 _ (by omega) (by omega) (by omega))).keep (f22 _ (by omega))
  have hA25 := (hA21).keep (fun a h1 h2 => f22 a (by omega))
  refine H21 (d := d) (l := 60) hK hM hA25 rfl (by omega) q23 q24 q22 (by omega) (fun I26 J26 q26_0 q26_1 q26_2 f26 => ?_)
  exact ⟨rfl, hp I26 J26 q26_0 q26_1 q26_2 (fun a h1 h2 h3 h4 h5 h6 h7 h8 h9 => ((((((((f26 a (by omega) (by omega) (by omega) (by omega) (by omega) (by omega) (by omega)).trans (f22 a (by omega))).trans (f19 a (by omega) (by omega) (by omega))).trans (f14 a (by omega) (by omega) (by omega))).trans (f9 a (by omega))).trans (f7 a (by omega))).trans (f3 a (by omega))).trans (f1 a (by omega))))⟩
set_option maxHeartbeats 4000000 in
theorem H29 [NeZero p] {l c d' : Nat} {z0 z1 : Int32} {A B C X Y S : TR p D h} {post : Option Value → Me → Prop} (hK : Ksp K) (hM : HsM M o) (hA : TwA I (o + 1) p h D) (hz0 : z0 = nI l) (hz1 : z1 = nI c) (hl : l ≤ 60) (hc : c ≤ 60) (hA0 : Re I p D h (o + 26 + 3 * l + 0) A) (hB0 : Re I p D h (o + 26 + 3 * l + 1) B) (hC0 : Re I p D h (o + 26 + 3 * l + 2) C) (hX0 : Re I p D h (o + 26 + 3 * c + 0) X) (hY0 : Re I p D h (o + 26 + 3 * c + 1) Y) (hS0 : Re I p D h (o + 26 + 3 * c + 2) S) (hd : d + 4 ≤ d') (hp : ∀ I1 J1, Re I1 p D h (o + 210) (sel p D h B ((TI p D h).ofNat 0).ofNat A) → Re I1 p D h (o + 212) ((TI p D h).add ((TI p D h).mul (sel p D h B ((TI p D h).ofNat 0).ofNat A) (sel p D h B ((TI p D h).ofNat 0).ofNat A)) ((TI p D h).ofNat 1).ofNat) → Re I1 p D h (o + 213) ((TI p D h).add ((TI p D h).sub ((TI p D h).mul (sel p D h B ((TI p D h).ofNat 0).ofNat A) ((TI p D h).add C (sel p D h B X Y))) (sel p D h B Y X)) ((TI p D h).sub ((TI p D h).mul (sel p D h B ((TI p D h).ofNat 0).ofNat A) ((TI p D h).add C (sel p D h B X Y))) (sel p D h B Y X))) → Re I1 p D h (o + 214) ((TI p D h).sub ((TI p D h).add ((TI p D h).mul (sel p D h B Y X) (sel p D h B Y X)) ((TI p D h).mul ((TI p D h).add C (sel p D h B X Y)) ((TI p D h).add C (sel p D h B X Y)))) S) → (∀ a, a ≠ o + 210 → a ≠ o + 211 → a ≠ o + 212 → a ≠ o + 213 → a ≠ o + 214 → a ≠ o + 217 → I1 a = I a) → post none (St M I1 J1)) : Ok K d' 29 [.ref o, .int z0, .int z1] (St M I J) post := by
  refine Ok.up (d := d + 4) (post := post) ?_ hd (fun _ _ h => h)
  subst hz0 hz1
  refine Ok.go (e := me_29) rfl rfl (Nat.le_of_ble_eq_true rfl) hM.c ?_
  refine Rf.go 300 [] ?_
  refine And.intro hM.c ⟨o + 1, hM.r0, ?_⟩
  refine (h_row (K := K) (d := d) (t := l) (i := 1) hM (by omega) (by omega) rfl rfl).up (by omega) ?_
  rintro r M1 ⟨rfl, rfl⟩
  refine (t_isZeroE (d := d) hM.tc (hM.rc (by omega)) hA.1.2.2.1 hA.1.2.2.2.1.2 hB0).up (by omega) ?_
  rintro r M1 ⟨rfl, (⟨z1, rfl⟩ | ⟨z1, rfl⟩)⟩
  · refine And.intro (fun hb => absurd hb (by decide)) (fun _ => ?_)
    refine (h_row (K := K) (d := d) (t := c) (i := 1) hM (by omega) (by omega) rfl rfl).up (by omega) ?_
    rintro r M1 ⟨rfl, rfl⟩
    refine And.intro (fun hb => absurd hb (by decide)) (fun _ => ?_)
    refine (h_row (K := K) (d := d) (t := c) (i := 0) hM (by omega) (by omega) rfl rfl).up (by omega) ?_
    rintro r M1 ⟨rfl, rfl⟩
    refine And.intro hM.c ⟨o + 1, hM.r0, ?_⟩
    refine And.intro hM.c ⟨o + 210, hM.r3, ?_⟩
    refine Wr.go2 (e_set0 (d := d) hM.tw hA.1 (by omega) (hM.rc (by omega))) (by omega) (fun I2 J2 q2 f2 => ?_)
    refine And.intro (fun _ => ?_) (fun hb => absurd (by decide) hb)
    refine And.intro hM.c ⟨o + 1, hM.r0, ?_⟩
    refine (h_row (K := K) (d := d) (t := l) (i := 2) hM (by omega) (by omega) rfl rfl).up (by omega) ?_
    rintro r M1 ⟨rfl, rfl⟩
    refine And.intro hM.c ⟨o + 211, hM.r4, ?_⟩
    have q3 := (hC0).keep (f2 _ (by omega))
    have q4 := (hX0).keep (f2 _ (by omega))
    have hA5 := (hA).keep (fun a h1 h2 => f2 a (by omega))
    refine Wr.go2 (e_addk (d := d)  hM.tw hA5.1 (hM.rc (by omega)) (hM.rc (by omega)) (hM.rc (by omega)) q3 q4) (by omega) (fun I6 J6 q6 f6 => ?_)
    refine And.intro hM.c ⟨o + 1, hM.r0, ?_⟩
    refine And.intro hM.c ⟨o + 217, hM.r10, ?_⟩
    have hA7 := (hA5).keep (fun a h1 h2 => f6 a (by omega))
    refine Wr.go2 (e_set1 (d := d) hM.tw hA7.1 (by omega) (hM.rc (by omega))) (by omega) (fun I8 J8 q8 f8 => ?_)
    refine And.intro hM.c ⟨o + 1, hM.r0, ?_⟩
    refine And.intro hM.c ⟨o + 210, hM.r3, ?_⟩
    refine And.intro hM.c ⟨o + 210, hM.r3, ?_⟩
    refine And.intro hM.c ⟨o + 212, hM.r5, ?_⟩
    have q9 := ((q2).keep (f6 _ (by omega))).keep (f8 _ (by omega))
    have hA10 := (hA7).keep (fun a h1 h2 => f8 a (by omega))
    refine Wr.go2 (e_mul (d := d) hK hM.tw hA10.1 (hM.rc (by omega)) (hM.rc (by omega)) (hM.rc (by omega)) q9 q9) (by omega) (fun I11 J11 q11 f11 => ?_)
    refine And.intro hM.c ⟨o + 1, hM.r0, ?_⟩
    refine And.intro hM.c ⟨o + 212, hM.r5, ?_⟩
    refine And.intro hM.c ⟨o + 217, hM.r10, ?_⟩
    refine And.intro hM.c ⟨o + 212, hM.r5, ?_⟩
    have q12 := (q8).keep (f11 _ (by omega))
    have hA13 := (hA10).keep (fun a h1 h2 => f11 a (by omega))
    refine Wr.go2 (e_addk (d := d)  hM.tw hA13.1 (hM.rc (by omega)) (hM.rc (by omega)) (hM.rc (by omega)) q11 q12) (by omega) (fun I14 J14 q14 f14 => ?_)
    refine And.intro hM.c ⟨o + 1, hM.r0, ?_⟩
    refine And.intro hM.c ⟨o + 210, hM.r3, ?_⟩
    refine And.intro hM.c ⟨o + 211, hM.r4, ?_⟩
    refine And.intro hM.c ⟨o + 213, hM.r6, ?_⟩
    have q15 := ((q9).keep (f11 _ (by omega))).keep (f14 _ (by omega))
    have q16 := (((q6).keep (f8 _ (by omega))).keep (f11 _ (by omega))).keep (f14 _ (by omega))
    have hA17 := (hA13).keep (fun a h1 h2 => f14 a (by omega))
    refine Wr.go2 (e_mul (d := d) hK hM.tw hA17.1 (hM.rc (by omega)) (hM.rc (by omega)) (hM.rc (by omega)) q15 q16) (by omega) (fun I18 J18 q18 f18 => ?_)
    refine And.intro hM.c ⟨o + 1, hM.r0, ?_⟩
    refine And.intro hM.c ⟨o + 213, hM.r6, ?_⟩
    refine And.intro hM.c ⟨o + 213, hM.r6, ?_⟩
    have q19 := ((((((hY0).keep (f2 _ (by omega))).keep (f6 _ (by omega))).keep (f8 _ (by omega))).keep (f11 _ (by omega))).keep (f14 _ (by omega))).keep (f18 _ (by omega))
    have hA20 := (hA17).keep (fun a h1 h2 => f18 a (by omega))
    refine Wr.go2 (e_sub (d := d)  hM.tw hA20.1 (hM.rc (by omega)) (hM.rc (by omega)) (hM.rc (by omega)) q18 q19) (by omega) (fun I21 J21 q21 f21 => ?_)
    refine And.intro hM.c ⟨o + 1, hM.r0, ?_⟩
    refine And.intro hM.c ⟨o + 213, hM.r6, ?_⟩
    refine And.intro hM.c ⟨o + 213, hM.r6, ?_⟩
    have hA22 := (hA20).keep (fun a h1 h2 => f21 a (by omega))
    refine Wr.go2 (e_sc2 (d := d) hM.tw hA22.1 (hM.rc (by omega)) (hM.rc (by omega)) q21) (by omega) (fun I23 J23 q23 f23 => ?_)
    refine And.intro hM.c ⟨o + 1, hM.r0, ?_⟩
    refine And.intro hM.c ⟨o + 214, hM.r7, ?_⟩
    have q24 := ((q19).keep (f21 _ (by omega))).keep (f23 _ (by omega))
    have hA25 := (hA22).keep (fun a h1 h2 => f23 a (by omega))
    refine Wr.go2 (e_mul (d := d) hK hM.tw hA25.1 (hM.rc (by omega)) (hM.rc (by omega)) (hM.rc (by omega)) q24 q24) (by omega) (fun I26 J26 q26 f26 => ?_)
    refine And.intro hM.c ⟨o + 1, hM.r0, ?_⟩
    refine And.intro hM.c ⟨o + 211, hM.r4, ?_⟩
    refine And.intro hM.c ⟨o + 211, hM.r4, ?_⟩
    refine And.intro hM.c ⟨o + 217, hM.r10, ?_⟩
    have q27 := ((((q16).keep (f18 _ (by omega))).keep (f21 _ (by omega))).keep (f23 _ (by omega))).keep (f26 _ (by omega))
    have hA28 := (hA25).keep (fun a h1 h2 => f26 a (by omega))
    refine Wr.go2 (e_mul (d := d) hK hM.tw hA28.1 (hM.rc (by omega)) (hM.rc (by omega)) (hM.rc (by omega)) q27 q27) (by omega) (fun I29 J29 q29 f29 => ?_)
    refine And.intro hM.c ⟨o + 1, hM.r0, ?_⟩
    refine And.intro hM.c ⟨o + 214, hM.r7, ?_⟩
    refine And.intro hM.c ⟨o + 217, hM.r10, ?_⟩
    refine And.intro hM.c ⟨o + 214, hM.r7, ?_⟩
    have q30 := (q26).keep (f29 _ (by omega))
    have hA31 := (hA28).keep (fun a h1 h2 => f29 a (by omega))
    refine Wr.go2 (e_addk (d := d)  hM.tw hA31.1 (hM.rc (by omega)) (hM.rc (by omega)) (hM.rc (by omega)) q30 q29) (by omega) (fun I32 J32 q32 f32 => ?_)
    refine And.intro hM.c ⟨o + 1, hM.r0, ?_⟩
    refine And.intro hM.c ⟨o + 214, hM.r7, ?_⟩
    refine (h_row (K := K) (d := d) (t := c) (i := 2) hM (by omega) (by omega) rfl rfl).up (by omega) ?_
    rintro r M1 ⟨rfl, rfl⟩
    refine And.intro hM.c ⟨o + 214, hM.r7, ?_⟩
    have q33 := (((((((((((hS0).keep (f2 _ (by omega))).keep (f6 _ (by omega))).keep (f8 _ (by omega))).keep (f11 _ (by omega))).keep (f14 _ (by omega))).keep (f18 _ (by omega))).keep (f21 _ (by omega))).keep (f23 _ (by omega))).keep (f26 _ (by omega))).keep (f29 _ (by omega))).keep (f32 _ (by omega))
    have hA34 := (hA31).keep (fun a h1 h2 => f32 a (by omega))
    refine Wr.go2 (e_sub (d := d)  hM.tw hA34.1 (hM.rc (by omega)) (hM.rc (by omega)) (hM.rc (by omega)) q32 q33) (by omega) (fun I35 J35 q35 f35 => ?_)
    have q36 := (((((((q15).keep (f18 _ (by omega))).keep (f21 _ (by omega))).keep (f23 _ (by omega))).keep (f26 _ (by omega))).keep (f29 _ (by omega))).keep (f32 _ (by omega))).keep (f35 _ (by omega))
    have q37 := (((((((q14).keep (f18 _ (by omega))).keep (f21 _ (by omega))).keep (f23 _ (by omega))).keep (f26 _ (by omega))).keep (f29 _ (by omega))).keep (f32 _ (by omega))).keep (f35 _ (by omega))
    have q38 := ((((q23).keep (f26 _ (by omega))).keep (f29 _ (by omega))).keep (f32 _ (by omega))).keep (f35 _ (by omega))
    exact ⟨rfl, hp I35 J35 (by simp only [ldE_t z1, sel_t z1]; exact q36) (by simp only [ldE_t z1, sel_t z1]; exact q37) (by simp only [ldE_t z1, sel_t z1]; exact q38) (by simp only [ldE_t z1, sel_t z1]; exact q35) (fun a h1 h2 h3 h4 h5 h6 => ((((((((((((f35 a (by omega)).trans (f32 a (by omega))).trans (f29 a (by omega))).trans (f26 a (by omega))).trans (f23 a (by omega))).trans (f21 a (by omega))).trans (f18 a (by omega))).trans (f14 a (by omega))).trans (f11 a (by omega))).trans (f8 a (by omega))).trans (f6 a (by omega))).trans (f2 a (by omega))))⟩
  · refine And.intro (fun _ => ?_) (fun hb => absurd (by decide) hb)
    refine (h_row (K := K) (d := d) (t := c) (i := 0) hM (by omega) (by omega) rfl rfl).up (by omega) ?_
    rintro r M1 ⟨rfl, rfl⟩
    refine And.intro (fun _ => ?_) (fun hb => absurd (by decide) hb)
    refine (h_row (K := K) (d := d) (t := c) (i := 1) hM (by omega) (by omega) rfl rfl).up (by omega) ?_
    rintro r M1 ⟨rfl, rfl⟩
    refine And.intro hM.c ⟨o + 1, hM.r0, ?_⟩
    refine And.intro hM.c ⟨o + 210, hM.r3, ?_⟩
    refine Wr.go2 (e_set0 (d := d) hM.tw hA.1 (by omega) (hM.rc (by omega))) (by omega) (fun I39 J39 q39 f39 => ?_)
    refine And.intro (fun hb => absurd hb (by decide)) (fun _ => ?_)
    refine And.intro hM.c ⟨o + 1, hM.r0, ?_⟩
    refine (h_row (K := K) (d := d) (t := l) (i := 0) hM (by omega) (by omega) rfl rfl).up (by omega) ?_
    rintro r M1 ⟨rfl, rfl⟩
    refine And.intro hM.c ⟨o + 210, hM.r3, ?_⟩
    have q40 := (hA0).keep (f39 _ (by omega))
    have hA41 := (hA).keep (fun a h1 h2 => f39 a (by omega))
    refine Wr.go2 (e_copy (d := d) hM.tw (hM.rc (by omega)) (hM.rc (by omega)) q40) (by omega) (fun I42 J42 q42 f42 => ?_)
    refine And.intro hM.c ⟨o + 1, hM.r0, ?_⟩
    refine (h_row (K := K) (d := d) (t := l) (i := 2) hM (by omega) (by omega) rfl rfl).up (by omega) ?_
    rintro r M1 ⟨rfl, rfl⟩
    refine And.intro hM.c ⟨o + 211, hM.r4, ?_⟩
    have q43 := ((hC0).keep (f39 _ (by omega))).keep (f42 _ (by omega))
    have q44 := ((hY0).keep (f39 _ (by omega))).keep (f42 _ (by omega))
    have hA45 := (hA41).keep (fun a h1 h2 => f42 a (by omega))
    refine Wr.go2 (e_addk (d := d)  hM.tw hA45.1 (hM.rc (by omega)) (hM.rc (by omega)) (hM.rc (by omega)) q43 q44) (by omega) (fun I46 J46 q46 f46 => ?_)
    refine And.intro hM.c ⟨o + 1, hM.r0, ?_⟩
    refine And.intro hM.c ⟨o + 217, hM.r10, ?_⟩
    have hA47 := (hA45).keep (fun a h1 h2 => f46 a (by omega))
    refine Wr.go2 (e_set1 (d := d) hM.tw hA47.1 (by omega) (hM.rc (by omega))) (by omega) (fun I48 J48 q48 f48 => ?_)
    refine And.intro hM.c ⟨o + 1, hM.r0, ?_⟩
    refine And.intro hM.c ⟨o + 210, hM.r3, ?_⟩
    refine And.intro hM.c ⟨o + 210, hM.r3, ?_⟩
    refine And.intro hM.c ⟨o + 212, hM.r5, ?_⟩
    have q49 := ((q42).keep (f46 _ (by omega))).keep (f48 _ (by omega))
    have hA50 := (hA47).keep (fun a h1 h2 => f48 a (by omega))
    refine Wr.go2 (e_mul (d := d) hK hM.tw hA50.1 (hM.rc (by omega)) (hM.rc (by omega)) (hM.rc (by omega)) q49 q49) (by omega) (fun I51 J51 q51 f51 => ?_)
    refine And.intro hM.c ⟨o + 1, hM.r0, ?_⟩
    refine And.intro hM.c ⟨o + 212, hM.r5, ?_⟩
    refine And.intro hM.c ⟨o + 217, hM.r10, ?_⟩
    refine And.intro hM.c ⟨o + 212, hM.r5, ?_⟩
    have q52 := (q48).keep (f51 _ (by omega))
    have hA53 := (hA50).keep (fun a h1 h2 => f51 a (by omega))
    refine Wr.go2 (e_addk (d := d)  hM.tw hA53.1 (hM.rc (by omega)) (hM.rc (by omega)) (hM.rc (by omega)) q51 q52) (by omega) (fun I54 J54 q54 f54 => ?_)
    refine And.intro hM.c ⟨o + 1, hM.r0, ?_⟩
    refine And.intro hM.c ⟨o + 210, hM.r3, ?_⟩
    refine And.intro hM.c ⟨o + 211, hM.r4, ?_⟩
    refine And.intro hM.c ⟨o + 213, hM.r6, ?_⟩
    have q55 := ((q49).keep (f51 _ (by omega))).keep (f54 _ (by omega))
    have q56 := (((q46).keep (f48 _ (by omega))).keep (f51 _ (by omega))).keep (f54 _ (by omega))
    have hA57 := (hA53).keep (fun a h1 h2 => f54 a (by omega))
    refine Wr.go2 (e_mul (d := d) hK hM.tw hA57.1 (hM.rc (by omega)) (hM.rc (by omega)) (hM.rc (by omega)) q55 q56) (by omega) (fun I58 J58 q58 f58 => ?_)
    refine And.intro hM.c ⟨o + 1, hM.r0, ?_⟩
    refine And.intro hM.c ⟨o + 213, hM.r6, ?_⟩
    refine And.intro hM.c ⟨o + 213, hM.r6, ?_⟩
    have q59 := (((((((hX0).keep (f39 _ (by omega))).keep (f42 _ (by omega))).keep (f46 _ (by omega))).keep (f48 _ (by omega))).keep (f51 _ (by omega))).keep (f54 _ (by omega))).keep (f58 _ (by omega))
    have hA60 := (hA57).keep (fun a h1 h2 => f58 a (by omega))
    refine Wr.go2 (e_sub (d := d)  hM.tw hA60.1 (hM.rc (by omega)) (hM.rc (by omega)) (hM.rc (by omega)) q58 q59) (by omega) (fun I61 J61 q61 f61 => ?_)
    refine And.intro hM.c ⟨o + 1, hM.r0, ?_⟩
    refine And.intro hM.c ⟨o + 213, hM.r6, ?_⟩
    refine And.intro hM.c ⟨o + 213, hM.r6, ?_⟩
    have hA62 := (hA60).keep (fun a h1 h2 => f61 a (by omega))
    refine Wr.go2 (e_sc2 (d := d) hM.tw hA62.1 (hM.rc (by omega)) (hM.rc (by omega)) q61) (by omega) (fun I63 J63 q63 f63 => ?_)
    refine And.intro hM.c ⟨o + 1, hM.r0, ?_⟩
    refine And.intro hM.c ⟨o + 214, hM.r7, ?_⟩
    have q64 := ((q59).keep (f61 _ (by omega))).keep (f63 _ (by omega))
    have hA65 := (hA62).keep (fun a h1 h2 => f63 a (by omega))
    refine Wr.go2 (e_mul (d := d) hK hM.tw hA65.1 (hM.rc (by omega)) (hM.rc (by omega)) (hM.rc (by omega)) q64 q64) (by omega) (fun I66 J66 q66 f66 => ?_)
    refine And.intro hM.c ⟨o + 1, hM.r0, ?_⟩
    refine And.intro hM.c ⟨o + 211, hM.r4, ?_⟩
    refine And.intro hM.c ⟨o + 211, hM.r4, ?_⟩
    refine And.intro hM.c ⟨o + 217, hM.r10, ?_⟩
    have q67 := ((((q56).keep (f58 _ (by omega))).keep (f61 _ (by omega))).keep (f63 _ (by omega))).keep (f66 _ (by omega))
    have hA68 := (hA65).keep (fun a h1 h2 => f66 a (by omega))
    refine Wr.go2 (e_mul (d := d) hK hM.tw hA68.1 (hM.rc (by omega)) (hM.rc (by omega)) (hM.rc (by omega)) q67 q67) (by omega) (fun I69 J69 q69 f69 => ?_)
    refine And.intro hM.c ⟨o + 1, hM.r0, ?_⟩
    refine And.intro hM.c ⟨o + 214, hM.r7, ?_⟩
    refine And.intro hM.c ⟨o + 217, hM.r10, ?_⟩
    refine And.intro hM.c ⟨o + 214, hM.r7, ?_⟩
    have q70 := (q66).keep (f69 _ (by omega))
    have hA71 := (hA68).keep (fun a h1 h2 => f69 a (by omega))
    refine Wr.go2 (e_addk (d := d)  hM.tw hA71.1 (hM.rc (by omega)) (hM.rc (by omega)) (hM.rc (by omega)) q70 q69) (by omega) (fun I72 J72 q72 f72 => ?_)
    refine And.intro hM.c ⟨o + 1, hM.r0, ?_⟩
    refine And.intro hM.c ⟨o + 214, hM.r7, ?_⟩
    refine (h_row (K := K) (d := d) (t := c) (i := 2) hM (by omega) (by omega) rfl rfl).up (by omega) ?_
    rintro r M1 ⟨rfl, rfl⟩
    refine And.intro hM.c ⟨o + 214, hM.r7, ?_⟩
    have q73 := ((((((((((((hS0).keep (f39 _ (by omega))).keep (f42 _ (by omega))).keep (f46 _ (by omega))).keep (f48 _ (by omega))).keep (f51 _ (by omega))).keep (f54 _ (by omega))).keep (f58 _ (by omega))).keep (f61 _ (by omega))).keep (f63 _ (by omega))).keep (f66 _ (by omega))).keep (f69 _ (by omega))).keep (f72 _ (by omega))
    have hA74 := (hA71).keep (fun a h1 h2 => f72 a (by omega))
    refine Wr.go2 (e_sub (d := d)  hM.tw hA74.1 (hM.rc (by omega)) (hM.rc (by omega)) (hM.rc (by omega)) q72 q73) (by omega) (fun I75 J75 q75 f75 => ?_)
    have q76 := (((((((q55).keep (f58 _ (by omega))).keep (f61 _ (by omega))).keep (f63 _ (by omega))).keep (f66 _ (by omega))).keep (f69 _ (by omega))).keep (f72 _ (by omega))).keep (f75 _ (by omega))
    have q77 := (((((((q54).keep (f58 _ (by omega))).keep (f61 _ (by omega))).keep (f63 _ (by omega))).keep (f66 _ (by omega))).keep (f69 _ (by omega))).keep (f72 _ (by omega))).keep (f75 _ (by omega))
    have q78 := ((((q63).keep (f66 _ (by omega))).keep (f69 _ (by omega))).keep (f72 _ (by omega))).keep (f75 _ (by omega))
    exact ⟨rfl, hp I75 J75 (by simp only [ldE_f z1, sel_f z1]; exact q76) (by simp only [ldE_f z1, sel_f z1]; exact q77) (by simp only [ldE_f z1, sel_f z1]; exact q78) (by simp only [ldE_f z1, sel_f z1]; exact q75) (fun a h1 h2 h3 h4 h5 h6 => (((((((((((((f75 a (by omega)).trans (f72 a (by omega))).trans (f69 a (by omega))).trans (f66 a (by omega))).trans (f63 a (by omega))).trans (f61 a (by omega))).trans (f58 a (by omega))).trans (f54 a (by omega))).trans (f51 a (by omega))).trans (f48 a (by omega))).trans (f46 a (by omega))).trans (f42 a (by omega))).trans (f39 a (by omega))))⟩
set_option maxHeartbeats 4000000 in
theorem H32 [NeZero p] {t l d' : Nat} {z0 z1 : Int32} {B C SL SO : TR p D h} {post : Option Value → Me → Prop} (hK : Ksp K) (hM : HsM M o) (hA : TwA I (o + 1) p h D) (hz0 : z0 = nI t) (hz1 : z1 = nI l) (ht : t ≤ 60) (hl : l ≤ 60) (hne : t ≠ l) (hB0 : Re I p D h (o + 26 + 3 * l + 1) B) (hC0 : Re I p D h (o + 26 + 3 * l + 2) C) (hSL : Re I p D h (o + 210) SL) (hSO : Re I p D h (o + 216) SO) (hd : d + 4 ≤ d') (hp : ∀ I1 J1, Re I1 p D h (o + 26 + 3 * t + 0) (sel p D h B ((TI p D h).neg ((TI p D h).add ((TI p D h).mul SL SO) C)) SO) → Re I1 p D h (o + 26 + 3 * t + 1) (sel p D h B SO ((TI p D h).neg ((TI p D h).add ((TI p D h).mul SL SO) C))) → (∀ a, a ≠ o + 26 + 3 * t + 0 → a ≠ o + 26 + 3 * t + 1 → I1 a = I a) → post none (St M I1 J1)) : Ok K d' 32 [.ref o, .int z0, .int z1] (St M I J) post := by
  refine Ok.up (d := d + 4) (post := post) ?_ hd (fun _ _ h => h)
  subst hz0 hz1
  refine Ok.go (e := me_32) rfl rfl (Nat.le_of_ble_eq_true rfl) hM.c ?_
  refine Rf.go 200 [] ?_
  refine And.intro hM.c ⟨o + 1, hM.r0, ?_⟩
  refine (h_row (K := K) (d := d) (t := l) (i := 1) hM (by omega) (by omega) rfl rfl).up (by omega) ?_
  rintro r M1 ⟨rfl, rfl⟩
  refine (t_isZeroE (d := d) hM.tc (hM.rc (by omega)) hA.1.2.2.1 hA.1.2.2.2.1.2 hB0).up (by omega) ?_
  rintro r M1 ⟨rfl, (⟨z1, rfl⟩ | ⟨z1, rfl⟩)⟩
  · refine And.intro (fun hb => absurd hb (by decide)) (fun _ => ?_)
    refine (h_row (K := K) (d := d) (t := t) (i := 1) hM (by omega) (by omega) rfl rfl).up (by omega) ?_
    rintro r M1 ⟨rfl, rfl⟩
    refine And.intro (fun hb => absurd hb (by decide)) (fun _ => ?_)
    refine (h_row (K := K) (d := d) (t := t) (i := 0) hM (by omega) (by omega) rfl rfl).up (by omega) ?_
    rintro r M1 ⟨rfl, rfl⟩
    refine And.intro hM.c ⟨o + 1, hM.r0, ?_⟩
    refine And.intro hM.c ⟨o + 216, hM.r9, ?_⟩
    refine Wr.go2 (e_copy (d := d) hM.tw (hM.rc (by omega)) (hM.rc (by omega)) hSO) (by omega) (fun I2 J2 q2 f2 => ?_)
    refine And.intro hM.c ⟨o + 1, hM.r0, ?_⟩
    refine And.intro hM.c ⟨o + 210, hM.r3, ?_⟩
    refine And.intro hM.c ⟨o + 216, hM.r9, ?_⟩
    have q3 := (hSL).keep (f2 _ (by omega))
    have q4 := (hSO).keep (f2 _ (by omega))
    have hA5 := (hA).keep (fun a h1 h2 => f2 a (by omega))
    refine Wr.go2 (e_mul (d := d) hK hM.tw hA5.1 (hM.rc (by omega)) (hM.rc (by omega)) (hM.rc (by omega)) q3 q4) (by omega) (fun I6 J6 q6 f6 => ?_)
    refine And.intro hM.c ⟨o + 1, hM.r0, ?_⟩
    refine (h_row (K := K) (d := d) (t := l) (i := 2) hM (by omega) (by omega) rfl rfl).up (by omega) ?_
    rintro r M1 ⟨rfl, rfl⟩
    have q7 := ((hC0).keep (f2 _ (by omega))).keep (f6 _ (by omega))
    have hA8 := (hA5).keep (fun a h1 h2 => f6 a (by omega))
    refine Wr.go2 (e_addk (d := d)  hM.tw hA8.1 (hM.rc (by omega)) (hM.rc (by omega)) (hM.rc (by omega)) q6 q7) (by omega) (fun I9 J9 q9 f9 => ?_)
    refine And.intro hM.c ⟨o + 1, hM.r0, ?_⟩
    have hA10 := (hA8).keep (fun a h1 h2 => f9 a (by omega))
    refine Wr.go2 (e_neg (d := d) hM.tw hA10.1 (hM.rc (by omega)) (hM.rc (by omega)) q9) (by omega) (fun I11 J11 q11 f11 => ?_)
    have q12 := (((q2).keep (f6 _ (by omega))).keep (f9 _ (by omega))).keep (f11 _ (by omega))
    exact ⟨rfl, hp I11 J11 (by simp only [ldE_t z1, sel_t z1]; exact q11) (by simp only [ldE_t z1, sel_t z1]; exact q12) (fun a h1 h2 => ((((f11 a (by omega)).trans (f9 a (by omega))).trans (f6 a (by omega))).trans (f2 a (by omega))))⟩
  · refine And.intro (fun _ => ?_) (fun hb => absurd (by decide) hb)
    refine (h_row (K := K) (d := d) (t := t) (i := 0) hM (by omega) (by omega) rfl rfl).up (by omega) ?_
    rintro r M1 ⟨rfl, rfl⟩
    refine And.intro (fun _ => ?_) (fun hb => absurd (by decide) hb)
    refine (h_row (K := K) (d := d) (t := t) (i := 1) hM (by omega) (by omega) rfl rfl).up (by omega) ?_
    rintro r M1 ⟨rfl, rfl⟩
    refine And.intro hM.c ⟨o + 1, hM.r0, ?_⟩
    refine And.intro hM.c ⟨o + 216, hM.r9, ?_⟩
    refine Wr.go2 (e_copy (d := d) hM.tw (hM.rc (by omega)) (hM.rc (by omega)) hSO) (by omega) (fun I13 J13 q13 f13 => ?_)
    refine And.intro hM.c ⟨o + 1, hM.r0, ?_⟩
    refine And.intro hM.c ⟨o + 210, hM.r3, ?_⟩
    refine And.intro hM.c ⟨o + 216, hM.r9, ?_⟩
    have q14 := (hSL).keep (f13 _ (by omega))
    have q15 := (hSO).keep (f13 _ (by omega))
    have hA16 := (hA).keep (fun a h1 h2 => f13 a (by omega))
    refine Wr.go2 (e_mul (d := d) hK hM.tw hA16.1 (hM.rc (by omega)) (hM.rc (by omega)) (hM.rc (by omega)) q14 q15) (by omega) (fun I17 J17 q17 f17 => ?_)
    refine And.intro hM.c ⟨o + 1, hM.r0, ?_⟩
    refine (h_row (K := K) (d := d) (t := l) (i := 2) hM (by omega) (by omega) rfl rfl).up (by omega) ?_
    rintro r M1 ⟨rfl, rfl⟩
    have q18 := ((hC0).keep (f13 _ (by omega))).keep (f17 _ (by omega))
    have hA19 := (hA16).keep (fun a h1 h2 => f17 a (by omega))
    refine Wr.go2 (e_addk (d := d)  hM.tw hA19.1 (hM.rc (by omega)) (hM.rc (by omega)) (hM.rc (by omega)) q17 q18) (by omega) (fun I20 J20 q20 f20 => ?_)
    refine And.intro hM.c ⟨o + 1, hM.r0, ?_⟩
    have hA21 := (hA19).keep (fun a h1 h2 => f20 a (by omega))
    refine Wr.go2 (e_neg (d := d) hM.tw hA21.1 (hM.rc (by omega)) (hM.rc (by omega)) q20) (by omega) (fun I22 J22 q22 f22 => ?_)
    have q23 := (((q13).keep (f17 _ (by omega))).keep (f20 _ (by omega))).keep (f22 _ (by omega))
    exact ⟨rfl, hp I22 J22 (by simp only [ldE_f z1, sel_f z1]; exact q23) (by simp only [ldE_f z1, sel_f z1]; exact q22) (fun a h1 h2 => ((((f22 a (by omega)).trans (f20 a (by omega))).trans (f17 a (by omega))).trans (f13 a (by omega))))⟩
end H3
