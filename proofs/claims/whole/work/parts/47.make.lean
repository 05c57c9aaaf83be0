/-! House: printed by hgen.py -/
section H7
variable {K : Ka} {d o p h : Nat} {M : Me} {I : Nat → Nat → Int32} {J : Nat → Nat → Int64} {D : Nat → Nat → Nat}
noncomputable def nk0 (p : Nat) [NeZero p] (D : Nat → Nat → Nat) (h : Nat) (z : Int32) : Rz := (Int32.ofInt 0, D, h, rz3 (tV p D h (@nm (TR p D h) (TI p D h) (rs z p) ((TI p D h).ofNat 1).ofNat)) (fun _ => 0) (fun _ => 0))
noncomputable def nk1 (p : Nat) [NeZero p] (D : Nat → Nat → Nat) (h : Nat) (A B : TR p D h) : Rz := (Int32.ofInt 0, D, h, rz3 (tV p D h ((TI p D h).add A B)) (fun _ => 0) (fun _ => 0))
noncomputable def nk2 (p : Nat) [NeZero p] (D : Nat → Nat → Nat) (h : Nat) (A B : TR p D h) : Rz := (Int32.ofInt 0, D, h, rz3 (tV p D h ((TI p D h).sub A B)) (fun _ => 0) (fun _ => 0))
noncomputable def nk3 (p : Nat) [NeZero p] (D : Nat → Nat → Nat) (h : Nat) (A B : TR p D h) : Rz := (Int32.ofInt 0, D, h, rz3 (tV p D h ((TI p D h).mul A B)) (fun _ => 0) (fun _ => 0))
noncomputable def nk4 (p : Nat) [NeZero p] (D : Nat → Nat → Nat) (h : Nat) (A B : TR p D h) : Rz := @ite _ (B = ((TI p D h).ofNat 0).ofNat) (Classical.propDecidable _) (rzN (Int32.ofInt (-2)) D h) ((Int32.ofInt 0, D, h, rz3 (tV p D h ((TI p D h).mul A (iv p D h B))) (fun _ => 0) (fun _ => 0)))
noncomputable def nk5 (p : Nat) [NeZero p] (D : Nat → Nat → Nat) (h : Nat) (A : TR p D h) : Rz := @ite _ (RtC p D h A) (Classical.propDecidable _) ((Int32.ofInt 0, (gB p D h A), (gH p D h A), rz3 (tV p (gB p D h A) (gH p D h A) (oV p (gB p D h A) (gH p D h A) (rV p D h A))) (fun _ => 0) (fun _ => 0))) (rzN (Int32.ofInt (-5)) D h)
noncomputable def nk6 (p : Nat) [NeZero p] (D : Nat → Nat → Nat) (h : Nat) (A B : TR p D h) : Rz := (Int32.ofInt 0, D, h, rz3 (tV p D h A) (tV p D h B) (fun _ => 0))
/-- the line with a, b in the way of A, B through a point -/
noncomputable def lnF (p : Nat) [NeZero p] (D : Nat → Nat → Nat) (h : Nat) (A B X Y : TR p D h) : Rz := (Int32.ofInt 0, D, h, rz3 (tV p D h ((TI p D h).mul A (iv p D h (ldE p D h A B)))) (tV p D h ((TI p D h).mul B (iv p D h (ldE p D h A B)))) (tV p D h ((TI p D h).mul ((TI p D h).neg ((TI p D h).add ((TI p D h).mul A X) ((TI p D h).mul B Y))) (iv p D h (ldE p D h A B)))))
noncomputable def nk7 (p : Nat) [NeZero p] (D : Nat → Nat → Nat) (h : Nat) (S0 S1 T0 T1 : TR p D h) : Rz := @ite _ (S0 = T0 ∧ S1 = T1) (Classical.propDecidable _) (rzN (Int32.ofInt (-3)) D h) (lnF p D h ((TI p D h).sub S1 T1) ((TI p D h).sub T0 S0) S0 S1)
noncomputable def nk8 (p : Nat) [NeZero p] (D : Nat → Nat → Nat) (h : Nat) (C0 C1 S0 S1 T0 T1 : TR p D h) : Rz := (Int32.ofInt 0, D, h, rz3 (tV p D h C0) (tV p D h C1) (tV p D h ((TI p D h).add ((TI p D h).mul ((TI p D h).sub S0 T0) ((TI p D h).sub S0 T0)) ((TI p D h).mul ((TI p D h).sub S1 T1) ((TI p D h).sub S1 T1)))))
noncomputable def nk13 (p : Nat) [NeZero p] (D : Nat → Nat → Nat) (h : Nat) (A : TR p D h) : Rz := (Int32.ofInt 0, D, h, rz3 (tV p D h A) (fun _ => 0) (fun _ => 0))
noncomputable def ccF (p : Nat) [NeZero p] (D : Nat → Nat → Nat) (h : Nat) (G0 G1 G2 K0 K1 K2 : TR p D h) (i : Nat) : Rz := @ite _ (G0 = K0 ∧ G1 = K1) (Classical.propDecidable _) (@ite _ (G2 = K2) (Classical.propDecidable _) (rzN (Int32.ofInt (-3)) D h) (rzN (Int32.ofInt (-4)) D h)) (mtF p D h ((TI p D h).mul ((TI p D h).add ((TI p D h).sub K0 G0) ((TI p D h).sub K0 G0)) (iv p D h (ldE p D h ((TI p D h).add ((TI p D h).sub K0 G0) ((TI p D h).sub K0 G0)) ((TI p D h).add ((TI p D h).sub K1 G1) ((TI p D h).sub K1 G1))))) ((TI p D h).mul ((TI p D h).add ((TI p D h).sub K1 G1) ((TI p D h).sub K1 G1)) (iv p D h (ldE p D h ((TI p D h).add ((TI p D h).sub K0 G0) ((TI p D h).sub K0 G0)) ((TI p D h).add ((TI p D h).sub K1 G1) ((TI p D h).sub K1 G1))))) ((TI p D h).mul ((TI p D h).sub ((TI p D h).sub ((TI p D h).add ((TI p D h).mul G0 G0) ((TI p D h).mul G1 G1)) G2) ((TI p D h).sub ((TI p D h).add ((TI p D h).mul K0 K0) ((TI p D h).mul K1 K1)) K2)) (iv p D h (ldE p D h ((TI p D h).add ((TI p D h).sub K0 G0) ((TI p D h).sub K0 G0)) ((TI p D h).add ((TI p D h).sub K1 G1) ((TI p D h).sub K1 G1))))) G0 G1 G2 i)
set_option maxHeartbeats 4000000 in
theorem H16_0 [NeZero p] {t d' : Nat} {z0 z1 a1 b1 : Int32} {post : Option Value → Me → Prop} (hK : Ksp K) (hM : HsM M o) (hA : TwA I (o + 1) p h D) (hz0 : z0 = nI t) (hz1 : z1 = nI 0) (ht : t < 60) (hd : d + 9 ≤ d') (hp : ∀ I1 J1, OutC I1 o p t 1 (nk0 p D h a1) → FrC I I1 o t → post (some (.int (nk0 p D h a1).1)) (St M I1 J1)) : Ok K d' 16 [.ref o, .int z0, .int z1, .int a1, .int b1] (St M I J) post := by
  refine Ok.up (d := d + 9) (post := post) ?_ hd (fun _ _ h => h)
  subst hz0 hz1
  refine Ok.go (e := me_16) rfl rfl (Nat.le_of_ble_eq_true rfl) hM.c ?_
  refine Rf.go 300 [] ?_
  refine (h_row (K := K) (d := d) (t := t) (i := 0) hM (by omega) (by omega) rfl rfl).up (by omega) ?_
  rintro r M1 ⟨rfl, rfl⟩
  refine And.intro (fun hb => absurd hb (by decide)) (fun _ => ⟨7, rfl, ?_⟩)
  refine And.intro hM.c ⟨o + 1, hM.r0, ?_⟩
  refine Wr.go2 (e_setRes (d := d) (k := h) hM.tw hA.1 (by omega) (hM.rc (by omega))) (by omega) (fun I1 J1 q1 f1 => ?_)
  have hA2 := (hA).keep (fun a h1 h2 => f1 a (by omega))
  exact ⟨rfl, hp I1 J1 (OutC.r1 hA2 q1) (fun a h1 h2 h3 => (f1 a (by omega)))⟩
set_option maxHeartbeats 4000000 in
theorem H16_1 [NeZero p] {t a1 b1 d' : Nat} {z0 z1 z2 z3 : Int32} {A B : TR p D h} {post : Option Value → Me → Prop} (hK : Ksp K) (hM : HsM M o) (hA : TwA I (o + 1) p h D) (hz0 : z0 = nI t) (hz1 : z1 = nI 1) (hz2 : z2 = nI a1) (hz3 : z3 = nI b1) (ht : t < 60) (ha : a1 < t) (hb : b1 < t) (hA0 : Re I p D h (o + 26 + 3 * a1 + 0) A) (hB0 : Re I p D h (o + 26 + 3 * b1 + 0) B) (hd : d + 9 ≤ d') (hp : ∀ I1 J1, OutC I1 o p t 1 (nk1 p D h A B) → FrC I I1 o t → post (some (.int (nk1 p D h A B).1)) (St M I1 J1)) : Ok K d' 16 [.ref o, .int z0, .int z1, .int z2, .int z3] (St M I J) post := by
  refine Ok.up (d := d + 9) (post := post) ?_ hd (fun _ _ h => h)
  subst hz0 hz1 hz2 hz3
  refine Ok.go (e := me_16) rfl rfl (Nat.le_of_ble_eq_true rfl) hM.c ?_
  refine Rf.go 300 [] ?_
  refine (h_row (K := K) (d := d) (t := t) (i := 0) hM (by omega) (by omega) rfl rfl).up (by omega) ?_
  rintro r M1 ⟨rfl, rfl⟩
  refine And.intro (fun hb => absurd hb (by decide)) (fun _ => ⟨14, rfl, ?_⟩)
  refine And.intro hM.c ⟨o + 1, hM.r0, ?_⟩
  refine (h_row (K := K) (d := d) (t := a1) (i := 0) hM (by omega) (by omega) rfl rfl).up (by omega) ?_
  rintro r M1 ⟨rfl, rfl⟩
  refine (h_row (K := K) (d := d) (t := b1) (i := 0) hM (by omega) (by omega) rfl rfl).up (by omega) ?_
  rintro r M1 ⟨rfl, rfl⟩
  refine Wr.go2 (e_addk (d := d)  hM.tw hA.1 (hM.rc (by omega)) (hM.rc (by omega)) (hM.rc (by omega)) hA0 hB0) (by omega) (fun I1 J1 q1 f1 => ?_)
  have hA2 := (hA).keep (fun a h1 h2 => f1 a (by omega))
  exact ⟨rfl, hp I1 J1 (OutC.r1 hA2 q1) (fun a h1 h2 h3 => (f1 a (by omega)))⟩
set_option maxHeartbeats 4000000 in
theorem H16_2 [NeZero p] {t a1 b1 d' : Nat} {z0 z1 z2 z3 : Int32} {A B : TR p D h} {post : Option Value → Me → Prop} (hK : Ksp K) (hM : HsM M o) (hA : TwA I (o + 1) p h D) (hz0 : z0 = nI t) (hz1 : z1 = nI 2) (hz2 : z2 = nI a1) (hz3 : z3 = nI b1) (ht : t < 60) (ha : a1 < t) (hb : b1 < t) (hA0 : Re I p D h (o + 26 + 3 * a1 + 0) A) (hB0 : Re I p D h (o + 26 + 3 * b1 + 0) B) (hd : d + 9 ≤ d') (hp : ∀ I1 J1, OutC I1 o p t 1 (nk2 p D h A B) → FrC I I1 o t → post (some (.int (nk2 p D h A B).1)) (St M I1 J1)) : Ok K d' 16 [.ref o, .int z0, .int z1, .int z2, .int z3] (St M I J) post := by
  refine Ok.up (d := d + 9) (post := post) ?_ hd (fun _ _ h => h)
  subst hz0 hz1 hz2 hz3
  refine Ok.go (e := me_16) rfl rfl (Nat.le_of_ble_eq_true rfl) hM.c ?_
  refine Rf.go 300 [] ?_
  refine (h_row (K := K) (d := d) (t := t) (i := 0) hM (by omega) (by omega) rfl rfl).up (by omega) ?_
  rintro r M1 ⟨rfl, rfl⟩
  refine And.intro (fun hb => absurd hb (by decide)) (fun _ => ⟨28, rfl, ?_⟩)
  refine And.intro hM.c ⟨o + 1, hM.r0, ?_⟩
  refine (h_row (K := K) (d := d) (t := a1) (i := 0) hM (by omega) (by omega) rfl rfl).up (by omega) ?_
  rintro r M1 ⟨rfl, rfl⟩
  refine (h_row (K := K) (d := d) (t := b1) (i := 0) hM (by omega) (by omega) rfl rfl).up (by omega) ?_
  rintro r M1 ⟨rfl, rfl⟩
  refine Wr.go2 (e_sub (d := d)  hM.tw hA.1 (hM.rc (by omega)) (hM.rc (by omega)) (hM.rc (by omega)) hA0 hB0) (by omega) (fun I1 J1 q1 f1 => ?_)
  have hA2 := (hA).keep (fun a h1 h2 => f1 a (by omega))
  exact ⟨rfl, hp I1 J1 (OutC.r1 hA2 q1) (fun a h1 h2 h3 => (f1 a (by omega)))⟩
set_option maxHeartbeats 4000000 in
theorem H16_3 [NeZero p] {t a1 b1 d' : Nat} {z0 z1 z2 z3 : Int32} {A B : TR p D h} {post : Option Value → Me → Prop} (hK : Ksp K) (hM : HsM M o) (hA : TwA I (o + 1) p h D) (hz0 : z0 = nI t) (hz1 : z1 = nI 3) (hz2 : z2 = nI a1) (hz3 : z3 = nI b1) (ht : t < 60) (ha : a1 < t) (hb : b1 < t) (hA0 : Re I p D h (o + 26 + 3 * a1 + 0) A) (hB0 : Re I p D h (o + 26 + 3 * b1 + 0) B) (hd : d + 9 ≤ d') (hp : ∀ I1 J1, OutC I1 o p t 1 (nk3 p D h A B) → FrC I I1 o t → post (some (.int (nk3 p D h A B).1)) (St M I1 J1)) : Ok K d' 16 [.ref o, .int z0, .int z1, .int z2, .int z3] (St M I J) post := by
  refine Ok.up (d := d + 9) (post := post) ?_ hd (fun _ _ h => h)
  subst hz0 hz1 hz2 hz3
  refine Ok.go (e := me_16) rfl rfl (Nat.le_of_ble_eq_true rfl) hM.c ?_
  refine Rf.go 300 [] ?_
  refine (h_row (K := K) (d := d) (t := t) (i := 0) hM (by omega) (by omega) rfl rfl).up (by omega) ?_
  rintro r M1 ⟨rfl, rfl⟩
  refine And.intro (fun hb => absurd hb (by decide)) (fun _ => ⟨42, rfl, ?_⟩)
  refine And.intro hM.c ⟨o + 1, hM.r0, ?_⟩
  refine (h_row (K := K) (d := d) (t := a1) (i := 0) hM (by omega) (by omega) rfl rfl).up (by omega) ?_
  rintro r M1 ⟨rfl, rfl⟩
  refine (h_row (K := K) (d := d) (t := b1) (i := 0) hM (by omega) (by omega) rfl rfl).up (by omega) ?_
  rintro r M1 ⟨rfl, rfl⟩
  refine Wr.go2 (e_mul (d := d) hK hM.tw hA.1 (hM.rc (by omega)) (hM.rc (by omega)) (hM.rc (by omega)) hA0 hB0) (by omega) (fun I1 J1 q1 f1 => ?_)
  have hA2 := (hA).keep (fun a h1 h2 => f1 a (by omega))
  exact ⟨rfl, hp I1 J1 (OutC.r1 hA2 q1) (fun a h1 h2 h3 => (f1 a (by omega)))⟩
set_option maxHeartbeats 4000000 in
theorem H16_4 [NeZero p] {t a1 b1 d' : Nat} {z0 z1 z2 z3 : Int32} {A B : TR p D h} {post : Option Value → Me → Prop} (hK : Ksp K) (hM : HsM M o) (hA : TwA I (o + 1) p h D) (hz0 : z0 = nI t) (hz1 : z1 = nI 4) (hz2 : z2 = nI a1) (hz3 : z3 = nI b1) (ht : t < 60) (ha : a1 < t) (hb : b1 < t) (hA0 : Re I p D h (o + 26 + 3 * a1 + 0) A) (hB0 : Re I p D h (o + 26 + 3 * b1 + 0) B) (hd : d + 9 ≤ d') (hp : ∀ I1 J1, OutC I1 o p t 1 (nk4 p D h A B) → FrC I I1 o t → post (some (.int (nk4 p D h A B).1)) (St M I1 J1)) : Ok K d' 16 [.ref o, .int z0, .int z1, .int z2, .int z3] (St M I J) post := by
  refine Ok.up (d := d + 9) (post := post) ?_ hd (fun _ _ h => h)
  subst hz0 hz1 hz2 hz3
  refine Ok.go (e := me_16) rfl rfl (Nat.le_of_ble_eq_true rfl) hM.c ?_
  refine Rf.go 300 [] ?_
  refine (h_row (K := K) (d := d) (t := t) (i := 0) hM (by omega) (by omega) rfl rfl).up (by omega) ?_
  rintro r M1 ⟨rfl, rfl⟩
  refine And.intro (fun hb => absurd hb (by decide)) (fun _ => ⟨56, rfl, ?_⟩)
  refine And.intro hM.c ⟨o + 1, hM.r0, ?_⟩
  refine (h_row (K := K) (d := d) (t := b1) (i := 0) hM (by omega) (by omega) rfl rfl).up (by omega) ?_
  rintro r M1 ⟨rfl, rfl⟩
  refine (t_isZeroE (d := d) hM.tc (hM.rc (by omega)) hA.1.2.2.1 hA.1.2.2.2.1.2 hB0).up (by omega) ?_
  rintro r M1 ⟨rfl, (⟨z1, rfl⟩ | ⟨z1, rfl⟩)⟩
  · refine And.intro (fun hb => absurd hb (by decide)) (fun _ => ?_)
    rw [show nk4 p D h A B = rzN (Int32.ofInt (-2)) D h from if_pos z1] at hp
    exact ⟨rfl, hp I J (OutC.no (by decide) hA) (fun a h1 h2 h3 => rfl)⟩
  · refine And.intro (fun _ => ?_) (fun hb => absurd (by decide) hb)
    refine And.intro hM.c ⟨o + 1, hM.r0, ?_⟩
    refine (h_row (K := K) (d := d) (t := a1) (i := 0) hM (by omega) (by omega) rfl rfl).up (by omega) ?_
    rintro r M1 ⟨rfl, rfl⟩
    refine (h_row (K := K) (d := d) (t := b1) (i := 0) hM (by omega) (by omega) rfl rfl).up (by omega) ?_
    rintro r M1 ⟨rfl, rfl⟩
    refine e_div' (d := d) hK hM.tw hA (hM.rc (by omega)) (hM.rc (by omega)) (hM.rc (by omega)) hA0 hB0 (by omega) (by omega) (fun I2 J2 q2 f2 => ?_)
    have hA3 := (hA).keep (fun a h1 h2 => f2 a (by omega) (by omega))
    rw [show nk4 p D h A B = (Int32.ofInt 0, D, h, rz3 (tV p D h ((TI p D h).mul A (iv p D h B))) (fun _ => 0) (fun _ => 0)) from if_neg z1] at hp
    exact ⟨rfl, hp I2 J2 (OutC.r1 hA3 q2) (fun a h1 h2 h3 => (f2 a (by omega) (by omega)))⟩
set_option maxHeartbeats 4000000 in
theorem H16_5 [NeZero p] {t a1 d' : Nat} {z0 z1 z2 b1 : Int32} {A : TR p D h} {post : Option Value → Me → Prop} (hK : Ksp K) (hM : HsM M o) (hA : TwA I (o + 1) p h D) (hz0 : z0 = nI t) (hz1 : z1 = nI 5) (hz2 : z2 = nI a1) (ht : t < 60) (ha : a1 < t) (hA0 : Re I p D h (o + 26 + 3 * a1 + 0) A) (hd : d + 9 ≤ d') (hp : ∀ I1 J1, OutC I1 o p t 1 (nk5 p D h A) → FrC I I1 o t → post (some (.int (nk5 p D h A).1)) (St M I1 J1)) : Ok K d' 16 [.ref o, .int z0, .int z1, .int z2, .int b1] (St M I J) post := by
  refine Ok.up (d := d + 9) (post := post) ?_ hd (fun _ _ h => h)
  subst hz0 hz1 hz2
  refine Ok.go (e := me_16) rfl rfl (Nat.le_of_ble_eq_true rfl) hM.c ?_
  refine Rf.go 300 [] ?_
  refine (h_row (K := K) (d := d) (t := t) (i := 0) hM (by omega) (by omega) rfl rfl).up (by omega) ?_
  rintro r M1 ⟨rfl, rfl⟩
  refine And.intro (fun _ => ?_) (fun hb => absurd (by decide) hb)
  refine And.intro hM.c ⟨o + 1, hM.r0, ?_⟩
  refine (h_row (K := K) (d := d) (t := a1) (i := 0) hM (by omega) (by omega) rfl rfl).up (by omega) ?_
  rintro r M1 ⟨rfl, rfl⟩
  refine e_root' (d := d) hK hM.tw hA (hM.rc (by omega)) (hM.rc (by omega)) hA0 (by omega) (by omega) (by omega) (fun c2 I1 J1 hA3 q1 f1 => ?_) (fun c2 I1 J1 hA3 f1 => ?_)
  · rw [show nk5 p D h A = (Int32.ofInt 0, (gB p D h A), (gH p D h A), rz3 (tV p (gB p D h A) (gH p D h A) (oV p (gB p D h A) (gH p D h A) (rV p D h A))) (fun _ => 0) (fun _ => 0)) from if_pos c2] at hp
    exact ⟨rfl, hp I1 J1 (OutC.r1 hA3 q1) (fun a h1 h2 h3 => (f1 a (by omega) (by omega)))⟩
  · rw [show nk5 p D h A = rzN (Int32.ofInt (-5)) D h from if_neg c2] at hp
    exact ⟨rfl, hp I1 J1 (OutC.no (by decide) hA3) (fun a h1 h2 h3 => (f1 a (by omega) (by omega)))⟩
set_option maxHeartbeats 4000000 in
theorem H18 [NeZero p] {t a1 b1 d' : Nat} {z0 z1 z2 : Int32} {S0 S1 T0 T1 : TR p D h} {post : Option Value → Me → Prop} (hK : Ksp K) (hM : HsM M o) (hA : TwA I (o + 1) p h D) (hz0 : z0 = nI t) (hz1 : z1 = nI a1) (hz2 : z2 = nI b1) (ht : t < 60) (ha : a1 < t) (hb : b1 < t) (hS0 : Re I p D h (o + 26 + 3 * a1 + 0) S0) (hS1 : Re I p D h (o + 26 + 3 * a1 + 1) S1) (hT0 : Re I p D h (o + 26 + 3 * b1 + 0) T0) (hT1 : Re I p D h (o + 26 + 3 * b1 + 1) T1) (hd : d + 6 ≤ d') (hp : ∀ I1 J1, OutC I1 o p t 3 (nk7 p D h S0 S1 T0 T1) → FrC I I1 o t → post (some (.int (nk7 p D h S0 S1 T0 T1).1)) (St M I1 J1)) : Ok K d' 18 [.ref o, .int z0, .int z1, .int z2] (St M I J) post := by
  refine Ok.up (d := d + 6) (post := post) ?_ hd (fun _ _ h => h)
  subst hz0 hz1 hz2
  refine Ok.go (e := me_18) rfl rfl (Nat.le_of_ble_eq_true rfl) hM.c ?_
  refine Rf.go 300 [] ?_
  refine H10_2 (d := d) (s := a1) (t := b1)  hK hM hA rfl rfl rfl (by omega) (by omega) hS0 hS1 hT0 hT1 (by omega) (fun z1 z2 => ?_) (fun z3 => ?_)
  · refine And.intro (fun hb => absurd hb (by decide)) (fun _ => ?_)
    rw [show nk7 p D h S0 S1 T0 T1 = rzN (Int32.ofInt (-3)) D h from if_pos ⟨z1, z2⟩] at hp
    exact ⟨rfl, hp I J (OutC.no (by decide) hA) (fun a h1 h2 h3 => rfl)⟩
  · refine And.intro (fun _ => ?_) (fun hb => absurd (by decide) hb)
    refine And.intro hM.c ⟨o + 1, hM.r0, ?_⟩
    refine (h_row (K := K) (d := d) (t := a1) (i := 1) hM (by omega) (by omega) rfl rfl).up (by omega) ?_
    rintro r M1 ⟨rfl, rfl⟩
    refine (h_row (K := K) (d := d) (t := b1) (i := 1) hM (by omega) (by omega) rfl rfl).up (by omega) ?_
    rintro r M1 ⟨rfl, rfl⟩
    refine (h_row (K := K) (d := d) (t := t) (i := 0) hM (by omega) (by omega) rfl rfl).up (by omega) ?_
    rintro r M1 ⟨rfl, rfl⟩
    refine Wr.go2 (e_sub (d := d)  hM.tw hA.1 (hM.rc (by omega)) (hM.rc (by omega)) (hM.rc (by omega)) hS1 hT1) (by omega) (fun I4 J4 q4 f4 => ?_)
    refine And.intro hM.c ⟨o + 1, hM.r0, ?_⟩
    refine (h_row (K := K) (d := d) (t := b1) (i := 0) hM (by omega) (by omega) rfl rfl).up (by omega) ?_
    rintro r M1 ⟨rfl, rfl⟩
    refine (h_row (K := K) (d := d) (t := a1) (i := 0) hM (by omega) (by omega) rfl rfl).up (by omega) ?_
    rintro r M1 ⟨rfl, rfl⟩
    refine (h_row (K := K) (d := d) (t := t) (i := 1) hM (by omega) (by omega) rfl rfl).up (by omega) ?_
    rintro r M1 ⟨rfl, rfl⟩
    have q5 := (hT0).keep (f4 _ (by omega))
    have q6 := (hS0).keep (f4 _ (by omega))
    have hA7 := (hA).keep (fun a h1 h2 => f4 a (by omega))
    refine Wr.go2 (e_sub (d := d)  hM.tw hA7.1 (hM.rc (by omega)) (hM.rc (by omega)) (hM.rc (by omega)) q5 q6) (by omega) (fun I8 J8 q8 f8 => ?_)
    have q9 := (q4).keep (f8 _ (by omega))
    have q10 := (q6).keep (f8 _ (by omega))
    have q11 := ((hS1).keep (f4 _ (by omega))).keep (f8 _ (by omega))
    have hA12 := (hA7).keep (fun a h1 h2 => f8 a (by omega))
    refine H20 (d := d) (l := t) (q := a1) hK hM hA12 rfl rfl (by omega) (by omega) (by omega) q9 q8 q10 q11 (by omega) (fun I13 J13 q13_0 q13_1 q13_2 f13 => ?_)
    have hA14 := (hA12).keep (fun a h1 h2 => f13 a (by omega) (by omega) (by omega) (by omega) (by omega) (by omega) (by omega) (by omega))
    rw [show nk7 p D h S0 S1 T0 T1 = lnF p D h ((TI p D h).sub S1 T1) ((TI p D h).sub T0 S0) S0 S1 from if_neg z3] at hp
    exact ⟨rfl, hp I13 J13 (OutC.r3 hA14 q13_0 q13_1 q13_2) (fun a h1 h2 h3 => (((f13 a (by omega) (by omega) (by omega) (by omega) (by omega) (by omega) (by omega) (by omega)).trans (f8 a (by omega))).trans (f4 a (by omega))))⟩
set_option maxHeartbeats 4000000 in
theorem H17_6 [NeZero p] {t S a1 b1 d' : Nat} {z0 z1 : Int32} {A B : TR p D h} {post : Option Value → Me → Prop} (hK : Ksp K) (hM : HsM M o) (hA : TwA I (o + 1) p h D) (hz0 : z0 = nI t) (hz1 : z1 = nI 6) (hA0 : Re I p D h (o + 26 + 3 * a1 + 0) A) (hB0 : Re I p D h (o + 26 + 3 * b1 + 0) B) (hKt : Kst K) (hS : StM M S) (hSo : S + 3 ≤ o) (hw0 : I (S + 2) (3 * t + 0) = nI a1) (hw1 : I (S + 2) (3 * t + 1) = nI b1) (ht : t < 60) (ha : a1 < t) (hb : b1 < t) (hd : d + 7 ≤ d') (hp : ∀ I1 J1, OutC I1 o p t 2 (nk6 p D h A B) → FrC I I1 o t → post (some (.int (nk6 p D h A B).1)) (St M I1 J1)) : Ok K d' 17 [.ref o, .int z0, .int z1, .ref S] (St M I J) post := by
  refine Ok.up (d := d + 7) (post := post) ?_ hd (fun _ _ h => h)
  subst hz0 hz1
  refine Ok.go (e := me_17) rfl rfl (Nat.le_of_ble_eq_true rfl) hM.c ?_
  refine Rf.go 300 [] ?_
  have w1 := s_toldOf (K := K) (d := d) (I := I) (J := J) hS (t := t) (i := 0) (by omega) (by decide) rfl rfl
  rw [hw0] at w1
  refine w1.up (by omega) ?_
  rintro r M1 ⟨rfl, rfl⟩
  have w2 := s_toldOf (K := K) (d := d) (I := I) (J := J) hS (t := t) (i := 1) (by omega) (by decide) rfl rfl
  rw [hw1] at w2
  refine w2.up (by omega) ?_
  rintro r M1 ⟨rfl, rfl⟩
  refine And.intro (fun hb => absurd hb (by decide)) (fun _ => ⟨12, rfl, ?_⟩)
  refine And.intro hM.c ⟨o + 1, hM.r0, ?_⟩
  refine (h_row (K := K) (d := d) (t := a1) (i := 0) hM (by omega) (by omega) rfl rfl).up (by omega) ?_
  rintro r M1 ⟨rfl, rfl⟩
  refine (h_row (K := K) (d := d) (t := t) (i := 0) hM (by omega) (by omega) rfl rfl).up (by omega) ?_
  rintro r M1 ⟨rfl, rfl⟩
  refine Wr.go2 (e_copy (d := d) hM.tw (hM.rc (by omega)) (hM.rc (by omega)) hA0) (by omega) (fun I3 J3 q3 f3 => ?_)
  refine And.intro hM.c ⟨o + 1, hM.r0, ?_⟩
  refine (h_row (K := K) (d := d) (t := b1) (i := 0) hM (by omega) (by omega) rfl rfl).up (by omega) ?_
  rintro r M1 ⟨rfl, rfl⟩
  refine (h_row (K := K) (d := d) (t := t) (i := 1) hM (by omega) (by omega) rfl rfl).up (by omega) ?_
  rintro r M1 ⟨rfl, rfl⟩
  have q4 := (hB0).keep (f3 _ (by omega))
  have hA5 := (hA).keep (fun a h1 h2 => f3 a (by omega))
  refine Wr.go2 (e_copy (d := d) hM.tw (hM.rc (by omega)) (hM.rc (by omega)) q4) (by omega) (fun I6 J6 q6 f6 => ?_)
  have hA7 := (hA5).keep (fun a h1 h2 => f6 a (by omega))
  have q8 := (q3).keep (f6 _ (by omega))
  exact ⟨rfl, hp I6 J6 (OutC.r2 hA7 q8 q6) (fun a h1 h2 h3 => ((f6 a (by omega)).trans (f3 a (by omega))))⟩
set_option maxHeartbeats 4000000 in
theorem H17_7 [NeZero p] {t S a1 b1 d' : Nat} {z0 z1 : Int32} {S0 S1 T0 T1 : TR p D h} {post : Option Value → Me → Prop} (hK : Ksp K) (hM : HsM M o) (hA : TwA I (o + 1) p h D) (hz0 : z0 = nI t) (hz1 : z1 = nI 7) (hS0 : Re I p D h (o + 26 + 3 * a1 + 0) S0) (hS1 : Re I p D h (o + 26 + 3 * a1 + 1) S1) (hT0 : Re I p D h (o + 26 + 3 * b1 + 0) T0) (hT1 : Re I p D h (o + 26 + 3 * b1 + 1) T1) (hKt : Kst K) (hS : StM M S) (hSo : S + 3 ≤ o) (hw0 : I (S + 2) (3 * t + 0) = nI a1) (hw1 : I (S + 2) (3 * t + 1) = nI b1) (ht : t < 60) (ha : a1 < t) (hb : b1 < t) (hd : d + 7 ≤ d') (hp : ∀ I1 J1, OutC I1 o p t 3 (nk7 p D h S0 S1 T0 T1) → FrC I I1 o t → post (some (.int (nk7 p D h S0 S1 T0 T1).1)) (St M I1 J1)) : Ok K d' 17 [.ref o, .int z0, .int z1, .ref S] (St M I J) post := by
  refine Ok.up (d := d + 7) (post := post) ?_ hd (fun _ _ h => h)
  subst hz0 hz1
  refine Ok.go (e := me_17) rfl rfl (Nat.le_of_ble_eq_true rfl) hM.c ?_
  refine Rf.go 300 [] ?_
  have w1 := s_toldOf (K := K) (d := d) (I := I) (J := J) hS (t := t) (i := 0) (by omega) (by decide) rfl rfl
  rw [hw0] at w1
  refine w1.up (by omega) ?_
  rintro r M1 ⟨rfl, rfl⟩
  have w2 := s_toldOf (K := K) (d := d) (I := I) (J := J) hS (t := t) (i := 1) (by omega) (by decide) rfl rfl
  rw [hw1] at w2
  refine w2.up (by omega) ?_
  rintro r M1 ⟨rfl, rfl⟩
  refine And.intro (fun hb => absurd hb (by decide)) (fun _ => ⟨36, rfl, ?_⟩)
  refine H18 (d := d) (t := t) (a1 := a1) (b1 := b1) hK hM hA rfl rfl rfl ht ha hb hS0 hS1 hT0 hT1 (by omega) (fun I9 J9 q9 f9 => ?_)
  exact ⟨rfl, hp I9 J9 q9 f9⟩
set_option maxHeartbeats 4000000 in
theorem H17_8 [NeZero p] {t S a1 b1 d' : Nat} {z0 z1 : Int32} {S0 S1 T0 T1 : TR p D h} {post : Option Value → Me → Prop} (hK : Ksp K) (hM : HsM M o) (hA : TwA I (o + 1) p h D) (hz0 : z0 = nI t) (hz1 : z1 = nI 8) (hS0 : Re I p D h (o + 26 + 3 * a1 + 0) S0) (hS1 : Re I p D h (o + 26 + 3 * a1 + 1) S1) (hT0 : Re I p D h (o + 26 + 3 * b1 + 0) T0) (hT1 : Re I p D h (o + 26 + 3 * b1 + 1) T1) (hKt : Kst K) (hS : StM M S) (hSo : S + 3 ≤ o) (hw0 : I (S + 2) (3 * t + 0) = nI a1) (hw1 : I (S + 2) (3 * t + 1) = nI b1) (ht : t < 60) (ha : a1 < t) (hb : b1 < t) (hd : d + 7 ≤ d') (hp : ∀ I1 J1, OutC I1 o p t 3 (nk8 p D h S0 S1 S0 S1 T0 T1) → FrC I I1 o t → post (some (.int (nk8 p D h S0 S1 S0 S1 T0 T1).1)) (St M I1 J1)) : Ok K d' 17 [.ref o, .int z0, .int z1, .ref S] (St M I J) post := by
  refine Ok.up (d := d + 7) (post := post) ?_ hd (fun _ _ h => h)
  subst hz0 hz1
  refine Ok.go (e := me_17) rfl rfl (Nat.le_of_ble_eq_true rfl) hM.c ?_
  refine Rf.go 300 [] ?_
  have w1 := s_toldOf (K := K) (d := d) (I := I) (J := J) hS (t := t) (i := 0) (by omega) (by decide) rfl rfl
  rw [hw0] at w1
  refine w1.up (by omega) ?_
  rintro r M1 ⟨rfl, rfl⟩
  have w2 := s_toldOf (K := K) (d := d) (I := I) (J := J) hS (t := t) (i := 1) (by omega) (by decide) rfl rfl
  rw [hw1] at w2
  refine w2.up (by omega) ?_
  rintro r M1 ⟨rfl, rfl⟩
  refine And.intro (fun hb => absurd hb (by decide)) (fun _ => ⟨42, rfl, ?_⟩)
  refine H19 (d := d) (t := t) (c := a1) (a1 := a1) (b1 := b1) hK hM hA rfl rfl rfl rfl (by omega) (by omega) (by omega) (by omega) (by omega) (by omega) (by omega) hS0 hS1 hS0 hS1 hT0 hT1 (by omega) (fun I3 J3 q3_0 q3_1 q3_2 f3 => ?_)
  have hA4 := (hA).keep (fun a h1 h2 => f3 a (by omega) (by omega) (by omega) (by omega) (by omega))
  exact ⟨rfl, hp I3 J3 (OutC.r3 hA4 q3_0 q3_1 q3_2) (fun a h1 h2 h3 => (f3 a (by omega) (by omega) (by omega) (by omega) (by omega)))⟩
set_option maxHeartbeats 4000000 in
theorem H17_9 [NeZero p] {t S a1 b1 c1 d' : Nat} {z0 z1 : Int32} {C0 C1 S0 S1 T0 T1 : TR p D h} {post : Option Value → Me → Prop} (hK : Ksp K) (hM : HsM M o) (hA : TwA I (o + 1) p h D) (hz0 : z0 = nI t) (hz1 : z1 = nI 9) (hC0 : Re I p D h (o + 26 + 3 * a1 + 0) C0) (hC1 : Re I p D h (o + 26 + 3 * a1 + 1) C1) (hS0 : Re I p D h (o + 26 + 3 * b1 + 0) S0) (hS1 : Re I p D h (o + 26 + 3 * b1 + 1) S1) (hT0 : Re I p D h (o + 26 + 3 * c1 + 0) T0) (hT1 : Re I p D h (o + 26 + 3 * c1 + 1) T1) (hKt : Kst K) (hS : StM M S) (hSo : S + 3 ≤ o) (hw0 : I (S + 2) (3 * t + 0) = nI a1) (hw1 : I (S + 2) (3 * t + 1) = nI b1) (hw2 : I (S + 2) (3 * t + 2) = nI c1) (ht : t < 60) (ha : a1 < t) (hb : b1 < t) (hc : c1 < t) (hd : d + 7 ≤ d') (hp : ∀ I1 J1, OutC I1 o p t 3 (nk8 p D h C0 C1 S0 S1 T0 T1) → FrC I I1 o t → post (some (.int (nk8 p D h C0 C1 S0 S1 T0 T1).1)) (St M I1 J1)) : Ok K d' 17 [.ref o, .int z0, .int z1, .ref S] (St M I J) post := by
  refine Ok.up (d := d + 7) (post := post) ?_ hd (fun _ _ h => h)
  subst hz0 hz1
  refine Ok.go (e := me_17) rfl rfl (Nat.le_of_ble_eq_true rfl) hM.c ?_
  refine Rf.go 300 [] ?_
  have w1 := s_toldOf (K := K) (d := d) (I := I) (J := J) hS (t := t) (i := 0) (by omega) (by decide) rfl rfl
  rw [hw0] at w1
  refine w1.up (by omega) ?_
  rintro r M1 ⟨rfl, rfl⟩
  have w2 := s_toldOf (K := K) (d := d) (I := I) (J := J) hS (t := t) (i := 1) (by omega) (by decide) rfl rfl
  rw [hw1] at w2
  refine w2.up (by omega) ?_
  rintro r M1 ⟨rfl, rfl⟩
  refine And.intro (fun hb => absurd hb (by decide)) (fun _ => ⟨50, rfl, ?_⟩)
  have w3 := s_toldOf (K := K) (d := d) (I := I) (J := J) hS (t := t) (i := 2) (by omega) (by decide) rfl rfl
  rw [hw2] at w3
  refine w3.up (by omega) ?_
  rintro r M1 ⟨rfl, rfl⟩
  refine H19 (d := d) (t := t) (c := a1) (a1 := b1) (b1 := c1) hK hM hA rfl rfl rfl rfl (by omega) (by omega) (by omega) (by omega) (by omega) (by omega) (by omega) hC0 hC1 hS0 hS1 hT0 hT1 (by omega) (fun I4 J4 q4_0 q4_1 q4_2 f4 => ?_)
  have hA5 := (hA).keep (fun a h1 h2 => f4 a (by omega) (by omega) (by omega) (by omega) (by omega))
  exact ⟨rfl, hp I4 J4 (OutC.r3 hA5 q4_0 q4_1 q4_2) (fun a h1 h2 h3 => (f4 a (by omega) (by omega) (by omega) (by omega) (by omega)))⟩
set_option maxHeartbeats 4000000 in
theorem H17_10 [NeZero p] {t S a1 b1 d' : Nat} {z0 z1 : Int32} {L0 L1 X Y : TR p D h} {post : Option Value → Me → Prop} (hK : Ksp K) (hM : HsM M o) (hA : TwA I (o + 1) p h D) (hz0 : z0 = nI t) (hz1 : z1 = nI 10) (hL0 : Re I p D h (o + 26 + 3 * a1 + 0) L0) (hL1 : Re I p D h (o + 26 + 3 * a1 + 1) L1) (hX0 : Re I p D h (o + 26 + 3 * b1 + 0) X) (hY0 : Re I p D h (o + 26 + 3 * b1 + 1) Y) (hKt : Kst K) (hS : StM M S) (hSo : S + 3 ≤ o) (hw0 : I (S + 2) (3 * t + 0) = nI a1) (hw1 : I (S + 2) (3 * t + 1) = nI b1) (ht : t < 60) (ha : a1 < t) (hb : b1 < t) (hd : d + 7 ≤ d') (hp : ∀ I1 J1, OutC I1 o p t 3 (lnF p D h L1 ((TI p D h).neg L0) X Y) → FrC I I1 o t → post (some (.int (lnF p D h L1 ((TI p D h).neg L0) X Y).1)) (St M I1 J1)) : Ok K d' 17 [.ref o, .int z0, .int z1, .ref S] (St M I J) post := by
  refine Ok.up (d := d + 7) (post := post) ?_ hd (fun _ _ h => h)
  subst hz0 hz1
  refine Ok.go (e := me_17) rfl rfl (Nat.le_of_ble_eq_true rfl) hM.c ?_
  refine Rf.go 300 [] ?_
  have w1 := s_toldOf (K := K) (d := d) (I := I) (J := J) hS (t := t) (i := 0) (by omega) (by decide) rfl rfl
  rw [hw0] at w1
  refine w1.up (by omega) ?_
  rintro r M1 ⟨rfl, rfl⟩
  have w2 := s_toldOf (K := K) (d := d) (I := I) (J := J) hS (t := t) (i := 1) (by omega) (by decide) rfl rfl
  rw [hw1] at w2
  refine w2.up (by omega) ?_
  rintro r M1 ⟨rfl, rfl⟩
  refine And.intro (fun hb => absurd hb (by decide)) (fun _ => ⟨61, rfl, ?_⟩)
  refine And.intro hM.c ⟨o + 1, hM.r0, ?_⟩
  refine (h_row (K := K) (d := d) (t := a1) (i := 1) hM (by omega) (by omega) rfl rfl).up (by omega) ?_
  rintro r M1 ⟨rfl, rfl⟩
  refine (h_row (K := K) (d := d) (t := t) (i := 0) hM (by omega) (by omega) rfl rfl).up (by omega) ?_
  rintro r M1 ⟨rfl, rfl⟩
  refine Wr.go2 (e_copy (d := d) hM.tw (hM.rc (by omega)) (hM.rc (by omega)) hL1) (by omega) (fun I3 J3 q3 f3 => ?_)
  refine And.intro hM.c ⟨o + 1, hM.r0, ?_⟩
  refine (h_row (K := K) (d := d) (t := a1) (i := 0) hM (by omega) (by omega) rfl rfl).up (by omega) ?_
  rintro r M1 ⟨rfl, rfl⟩
  refine (h_row (K := K) (d := d) (t := t) (i := 1) hM (by omega) (by omega) rfl rfl).up (by omega) ?_
  rintro r M1 ⟨rfl, rfl⟩
  have q4 := (hL0).keep (f3 _ (by omega))
  have hA5 := (hA).keep (fun a h1 h2 => f3 a (by omega))
  refine Wr.go2 (e_neg (d := d) hM.tw hA5.1 (hM.rc (by omega)) (hM.rc (by omega)) q4) (by omega) (fun I6 J6 q6 f6 => ?_)
  have q7 := (q3).keep (f6 _ (by omega))
  have q8 := ((hX0).keep (f3 _ (by omega))).keep (f6 _ (by omega))
  have q9 := ((hY0).keep (f3 _ (by omega))).keep (f6 _ (by omega))
  have hA10 := (hA5).keep (fun a h1 h2 => f6 a (by omega))
  refine H20 (d := d) (l := t) (q := b1) hK hM hA10 rfl rfl (by omega) (by omega) (by omega) q7 q6 q8 q9 (by omega) (fun I11 J11 q11_0 q11_1 q11_2 f11 => ?_)
  have hA12 := (hA10).keep (fun a h1 h2 => f11 a (by omega) (by omega) (by omega) (by omega) (by omega) (by omega) (by omega) (by omega))
  exact ⟨rfl, hp I11 J11 (OutC.r3 hA12 q11_0 q11_1 q11_2) (fun a h1 h2 h3 => (((f11 a (by omega) (by omega) (by omega) (by omega) (by omega) (by omega) (by omega) (by omega)).trans (f6 a (by omega))).trans (f3 a (by omega))))⟩
set_option maxHeartbeats 4000000 in
theorem H17_11 [NeZero p] {t S a1 b1 d' : Nat} {z0 z1 : Int32} {L0 L1 X Y : TR p D h} {post : Option Value → Me → Prop} (hK : Ksp K) (hM : HsM M o) (hA : TwA I (o + 1) p h D) (hz0 : z0 = nI t) (hz1 : z1 = nI 11) (hL0 : Re I p D h (o + 26 + 3 * a1 + 0) L0) (hL1 : Re I p D h (o + 26 + 3 * a1 + 1) L1) (hX0 : Re I p D h (o + 26 + 3 * b1 + 0) X) (hY0 : Re I p D h (o + 26 + 3 * b1 + 1) Y) (hKt : Kst K) (hS : StM M S) (hSo : S + 3 ≤ o) (hw0 : I (S + 2) (3 * t + 0) = nI a1) (hw1 : I (S + 2) (3 * t + 1) = nI b1) (ht : t < 60) (ha : a1 < t) (hb : b1 < t) (hd : d + 7 ≤ d') (hp : ∀ I1 J1, OutC I1 o p t 3 (lnF p D h L0 L1 X Y) → FrC I I1 o t → post (some (.int (lnF p D h L0 L1 X Y).1)) (St M I1 J1)) : Ok K d' 17 [.ref o, .int z0, .int z1, .ref S] (St M I J) post := by
  refine Ok.up (d := d + 7) (post := post) ?_ hd (fun _ _ h => h)
  subst hz0 hz1
  refine Ok.go (e := me_17) rfl rfl (Nat.le_of_ble_eq_true rfl) hM.c ?_
  refine Rf.go 300 [] ?_
  have w1 := s_toldOf (K := K) (d := d) (I := I) (J := J) hS (t := t) (i := 0) (by omega) (by decide) rfl rfl
  rw [hw0] at w1
  refine w1.up (by omega) ?_
  rintro r M1 ⟨rfl, rfl⟩
  have w2 := s_toldOf (K := K) (d := d) (I := I) (J := J) hS (t := t) (i := 1) (by omega) (by decide) rfl rfl
  rw [hw1] at w2
  refine w2.up (by omega) ?_
  rintro r M1 ⟨rfl, rfl⟩
  refine And.intro (fun hb => absurd hb (by decide)) (fun _ => ⟨89, rfl, ?_⟩)
  refine And.intro hM.c ⟨o + 1, hM.r0, ?_⟩
  refine (h_row (K := K) (d := d) (t := a1) (i := 0) hM (by omega) (by omega) rfl rfl).up (by omega) ?_
  rintro r M1 ⟨rfl, rfl⟩
  refine (h_row (K := K) (d := d) (t := t) (i := 0) hM (by omega) (by omega) rfl rfl).up (by omega) ?_
  rintro r M1 ⟨rfl, rfl⟩
  refine Wr.go2 (e_copy (d := d) hM.tw (hM.rc (by omega)) (hM.rc (by omega)) hL0) (by omega) (fun I3 J3 q3 f3 => ?_)
  refine And.intro hM.c ⟨o + 1, hM.r0, ?_⟩
  refine (h_row (K := K) (d := d) (t := a1) (i := 1) hM (by omega) (by omega) rfl rfl).up (by omega) ?_
  rintro r M1 ⟨rfl, rfl⟩
  refine (h_row (K := K) (d := d) (t := t) (i := 1) hM (by omega) (by omega) rfl rfl).up (by omega) ?_
  rintro r M1 ⟨rfl, rfl⟩
  have q4 := (hL1).keep (f3 _ (by omega))
  have hA5 := (hA).keep (fun a h1 h2 => f3 a (by omega))
  refine Wr.go2 (e_copy (d := d) hM.tw (hM.rc (by omega)) (hM.rc (by omega)) q4) (by omega) (fun I6 J6 q6 f6 => ?_)
  have q7 := (q3).keep (f6 _ (by omega))
  have q8 := ((hX0).keep (f3 _ (by omega))).keep (f6 _ (by omega))
  have q9 := ((hY0).keep (f3 _ (by omega))).keep (f6 _ (by omega))
  have hA10 := (hA5).keep (fun a h1 h2 => f6 a (by omega))
  refine H20 (d := d) (l := t) (q := b1) hK hM hA10 rfl rfl (by omega) (by omega) (by omega) q7 q6 q8 q9 (by omega) (fun I11 J11 q11_0 q11_1 q11_2 f11 => ?_)
  have hA12 := (hA10).keep (fun a h1 h2 => f11 a (by omega) (by omega) (by omega) (by omega) (by omega) (by omega) (by omega) (by omega))
  exact ⟨rfl, hp I11 J11 (OutC.r3 hA12 q11_0 q11_1 q11_2) (fun a h1 h2 h3 => (((f11 a (by omega) (by omega) (by omega) (by omega) (by omega) (by omega) (by omega) (by omega)).trans (f6 a (by omega))).trans (f3 a (by omega))))⟩
set_option maxHeartbeats 4000000 in
theorem H17_13 [NeZero p] {t S a1 b1 d' : Nat} {z0 z1 : Int32} {A : TR p D h} {post : Option Value → Me → Prop} (hK : Ksp K) (hM : HsM M o) (hA : TwA I (o + 1) p h D) (hz0 : z0 = nI t) (hz1 : z1 = nI 13) (hA0 : Re I p D h (o + 26 + 3 * a1 + b1) A) (hKt : Kst K) (hS : StM M S) (hSo : S + 3 ≤ o) (hw0 : I (S + 2) (3 * t + 0) = nI a1) (hw1 : I (S + 2) (3 * t + 1) = nI b1) (ht : t < 60) (ha : a1 < t) (hb : b1 < 3) (hd : d + 7 ≤ d') (hp : ∀ I1 J1, OutC I1 o p t 1 (nk13 p D h A) → FrC I I1 o t → post (some (.int (nk13 p D h A).1)) (St M I1 J1)) : Ok K d' 17 [.ref o, .int z0, .int z1, .ref S] (St M I J) post := by
  refine Ok.up (d := d + 7) (post := post) ?_ hd (fun _ _ h => h)
  subst hz0 hz1
  refine Ok.go (e := me_17) rfl rfl (Nat.le_of_ble_eq_true rfl) hM.c ?_
  refine Rf.go 300 [] ?_
  have w1 := s_toldOf (K := K) (d := d) (I := I) (J := J) hS (t := t) (i := 0) (by omega) (by decide) rfl rfl
  rw [hw0] at w1
  refine w1.up (by omega) ?_
  rintro r M1 ⟨rfl, rfl⟩
  have w2 := s_toldOf (K := K) (d := d) (I := I) (J := J) hS (t := t) (i := 1) (by omega) (by decide) rfl rfl
  rw [hw1] at w2
  refine w2.up (by omega) ?_
  rintro r M1 ⟨rfl, rfl⟩
  refine And.intro (fun _ => ?_) (fun hb => absurd (by decide) hb)
  refine And.intro hM.c ⟨o + 1, hM.r0, ?_⟩
  refine (h_row (K := K) (d := d) (t := a1) (i := b1) hM (by omega) (by omega) rfl rfl).up (by omega) ?_
  rintro r M1 ⟨rfl, rfl⟩
  refine (h_row (K := K) (d := d) (t := t) (i := 0) hM (by omega) (by omega) rfl rfl).up (by omega) ?_
  rintro r M1 ⟨rfl, rfl⟩
  refine Wr.go2 (e_copy (d := d) hM.tw (hM.rc (by omega)) (hM.rc (by omega)) hA0) (by omega) (fun I3 J3 q3 f3 => ?_)
  have hA4 := (hA).keep (fun a h1 h2 => f3 a (by omega))
  exact ⟨rfl, hp I3 J3 (OutC.r1 hA4 q3) (fun a h1 h2 h3 => (f3 a (by omega)))⟩
set_option maxHeartbeats 4000000 in
theorem H24_220 [NeZero p] {t S n g k kg kk d' : Nat} {z0 : Int32} {G0 G1 G2 K0 K1 K2 : TR p D h} {post : Option Value → Me → Prop} (hK : Ksp K) (hM : HsM M o) (hA : TwA I (o + 1) p h D) (hz0 : z0 = nI t) (hG0 : Re I p D h (o + 26 + 3 * g + 0) G0) (hG1 : Re I p D h (o + 26 + 3 * g + 1) G1) (hG2 : Re I p D h (o + 26 + 3 * g + 2) G2) (hK0 : Re I p D h (o + 26 + 3 * k + 0) K0) (hK1 : Re I p D h (o + 26 + 3 * k + 1) K1) (hK2 : Re I p D h (o + 26 + 3 * k + 2) K2) (hKt : Kst K) (hS : StM M S) (hSo : S + 3 ≤ o) (hn : I S 0 = nI n) (hn6 : n ≤ 60) (htn : t ≤ n) (hw0 : I (S + 2) (3 * t + 0) = nI g) (hw1 : I (S + 2) (3 * t + 1) = nI k) (hw2 : I (S + 2) (3 * t + 2) = nI 0) (ht : t < 60) (hg : g < t) (hk : k < t) (hkg : I (S + 1) g = nI kg) (hlg : kg < 14) (hsg : srt kg = 2) (hkk : I (S + 1) k = nI kk) (hlk : kk < 14) (hsk : srt kk = 2) (hd : d + 10 ≤ d') (hp : ∀ I1 J1, OutC I1 o p t 2 (mlF p D h G0 G1 G2 K0 K1 K2 0) → FrC I I1 o t → post (some (.int (mlF p D h G0 G1 G2 K0 K1 K2 0).1)) (St M I1 J1)) : Ok K d' 24 [.ref o, .int z0, .ref S] (St M I J) post := by
  refine Ok.up (d := d + 10) (post := post) ?_ hd (fun _ _ h => h)
  subst hz0
  refine Ok.go (e := me_24) rfl rfl (Nat.le_of_ble_eq_true rfl) hM.c ?_
  refine Rf.go 300 [82] ?_
  have w1 := s_toldOf (K := K) (d := d) (I := I) (J := J) hS (t := t) (i := 0) (by omega) (by decide) rfl rfl
  rw [hw0] at w1
  refine w1.up (by omega) ?_
  rintro r M1 ⟨rfl, rfl⟩
  have w2 := s_toldOf (K := K) (d := d) (I := I) (J := J) hS (t := t) (i := 1) (by omega) (by decide) rfl rfl
  rw [hw1] at w2
  refine w2.up (by omega) ?_
  rintro r M1 ⟨rfl, rfl⟩
  have w3 := s_toldOf (K := K) (d := d) (I := I) (J := J) hS (t := t) (i := 2) (by omega) (by decide) rfl rfl
  rw [hw2] at w3
  refine w3.up (by omega) ?_
  rintro r M1 ⟨rfl, rfl⟩
  have w4 := s_sortOf (K := K) (d := d) (I := I) (J := J) hKt hS hn hn6 (t := g) (by omega) hkg hlg rfl
  rw [hsg] at w4
  refine w4.up (by omega) ?_
  rintro r M1 ⟨rfl, rfl⟩
  refine And.intro (fun hb => absurd hb (by decide)) (fun _ => ?_)
  have w5 := s_sortOf (K := K) (d := d) (I := I) (J := J) hKt hS hn hn6 (t := k) (by omega) hkk hlk rfl
  rw [hsk] at w5
  refine w5.up (by omega) ?_
  rintro r M1 ⟨rfl, rfl⟩
  refine And.intro (fun hb => absurd hb (by decide)) (fun _ => ?_)
  refine And.intro (fun hb => absurd hb (by decide)) (fun _ => ?_)
  refine And.intro (fun hb => absurd hb (by decide)) (fun _ => ?_)
  refine H25_0 (d := d) (t := t) (l := g) (m := k) hK hM hA rfl rfl rfl rfl ht (by omega) (by omega) hG0 hG1 hG2 hK0 hK1 hK2 (by omega) (fun I9 J9 q9 f9 => ?_)
  exact ⟨rfl, hp I9 J9 q9 f9⟩
set_option maxHeartbeats 4000000 in
theorem H24_221 [NeZero p] {t S n g k kg kk d' : Nat} {z0 : Int32} {G0 G1 G2 K0 K1 K2 : TR p D h} {post : Option Value → Me → Prop} (hK : Ksp K) (hM : HsM M o) (hA : TwA I (o + 1) p h D) (hz0 : z0 = nI t) (hG0 : Re I p D h (o + 26 + 3 * g + 0) G0) (hG1 : Re I p D h (o + 26 + 3 * g + 1) G1) (hG2 : Re I p D h (o + 26 + 3 * g + 2) G2) (hK0 : Re I p D h (o + 26 + 3 * k + 0) K0) (hK1 : Re I p D h (o + 26 + 3 * k + 1) K1) (hK2 : Re I p D h (o + 26 + 3 * k + 2) K2) (hKt : Kst K) (hS : StM M S) (hSo : S + 3 ≤ o) (hn : I S 0 = nI n) (hn6 : n ≤ 60) (htn : t ≤ n) (hw0 : I (S + 2) (3 * t + 0) = nI g) (hw1 : I (S + 2) (3 * t + 1) = nI k) (hw2 : I (S + 2) (3 * t + 2) = nI 1) (ht : t < 60) (hg : g < t) (hk : k < t) (hkg : I (S + 1) g = nI kg) (hlg : kg < 14) (hsg : srt kg = 2) (hkk : I (S + 1) k = nI kk) (hlk : kk < 14) (hsk : srt kk = 2) (hd : d + 10 ≤ d') (hp : ∀ I1 J1, OutC I1 o p t 2 (mlF p D h G0 G1 G2 K0 K1 K2 1) → FrC I I1 o t → post (some (.int (mlF p D h G0 G1 G2 K0 K1 K2 1).1)) (St M I1 J1)) : Ok K d' 24 [.ref o, .int z0, .ref S] (St M I J) post := by
  refine Ok.up (d := d + 10) (post := post) ?_ hd (fun _ _ h => h)
  subst hz0
  refine Ok.go (e := me_24) rfl rfl (Nat.le_of_ble_eq_true rfl) hM.c ?_
  refine Rf.go 300 [82] ?_
  have w1 := s_toldOf (K := K) (d := d) (I := I) (J := J) hS (t := t) (i := 0) (by omega) (by decide) rfl rfl
  rw [hw0] at w1
  refine w1.up (by omega) ?_
  rintro r M1 ⟨rfl, rfl⟩
  have w2 := s_toldOf (K := K) (d := d) (I := I) (J := J) hS (t := t) (i := 1) (by omega) (by decide) rfl rfl
  rw [hw1] at w2
  refine w2.up (by omega) ?_
  rintro r M1 ⟨rfl, rfl⟩
  have w3 := s_toldOf (K := K) (d := d) (I := I) (J := J) hS (t := t) (i := 2) (by omega) (by decide) rfl rfl
  rw [hw2] at w3
  refine w3.up (by omega) ?_
  rintro r M1 ⟨rfl, rfl⟩
  have w4 := s_sortOf (K := K) (d := d) (I := I) (J := J) hKt hS hn hn6 (t := g) (by omega) hkg hlg rfl
  rw [hsg] at w4
  refine w4.up (by omega) ?_
  rintro r M1 ⟨rfl, rfl⟩
  refine And.intro (fun hb => absurd hb (by decide)) (fun _ => ?_)
  have w5 := s_sortOf (K := K) (d := d) (I := I) (J := J) hKt hS hn hn6 (t := k) (by omega) hkk hlk rfl
  rw [hsk] at w5
  refine w5.up (by omega) ?_
  rintro r M1 ⟨rfl, rfl⟩
  refine And.intro (fun hb => absurd hb (by decide)) (fun _ => ?_)
  refine And.intro (fun hb => absurd hb (by decide)) (fun _ => ?_)
  refine And.intro (fun hb => absurd hb (by decide)) (fun _ => ?_)
  refine H25_1 (d := d) (t := t) (l := g) (m := k) hK hM hA rfl rfl rfl rfl ht (by omega) (by omega) hG0 hG1 hG2 hK0 hK1 hK2 (by omega) (fun I9 J9 q9 f9 => ?_)
  exact ⟨rfl, hp I9 J9 q9 f9⟩
set_option maxHeartbeats 4000000 in
theorem H24_230 [NeZero p] {t S n g k kg kk d' : Nat} {z0 : Int32} {G0 G1 G2 K0 K1 K2 : TR p D h} {post : Option Value → Me → Prop} (hK : Ksp K) (hM : HsM M o) (hA : TwA I (o + 1) p h D) (hz0 : z0 = nI t) (hG0 : Re I p D h (o + 26 + 3 * g + 0) G0) (hG1 : Re I p D h (o + 26 + 3 * g + 1) G1) (hG2 : Re I p D h (o + 26 + 3 * g + 2) G2) (hK0 : Re I p D h (o + 26 + 3 * k + 0) K0) (hK1 : Re I p D h (o + 26 + 3 * k + 1) K1) (hK2 : Re I p D h (o + 26 + 3 * k + 2) K2) (hKt : Kst K) (hS : StM M S) (hSo : S + 3 ≤ o) (hn : I S 0 = nI n) (hn6 : n ≤ 60) (htn : t ≤ n) (hw0 : I (S + 2) (3 * t + 0) = nI g) (hw1 : I (S + 2) (3 * t + 1) = nI k) (hw2 : I (S + 2) (3 * t + 2) = nI 0) (ht : t < 60) (hg : g < t) (hk : k < t) (hkg : I (S + 1) g = nI kg) (hlg : kg < 14) (hsg : srt kg = 2) (hkk : I (S + 1) k = nI kk) (hlk : kk < 14) (hsk : srt kk = 3) (hd : d + 10 ≤ d') (hp : ∀ I1 J1, OutC I1 o p t 2 (mtF p D h G0 G1 G2 K0 K1 K2 0) → FrC I I1 o t → post (some (.int (mtF p D h G0 G1 G2 K0 K1 K2 0).1)) (St M I1 J1)) : Ok K d' 24 [.ref o, .int z0, .ref S] (St M I J) post := by
  refine Ok.up (d := d + 10) (post := post) ?_ hd (fun _ _ h => h)
  subst hz0
  refine Ok.go (e := me_24) rfl rfl (Nat.le_of_ble_eq_true rfl) hM.c ?_
  refine Rf.go 300 [82] ?_
  have w1 := s_toldOf (K := K) (d := d) (I := I) (J := J) hS (t := t) (i := 0) (by omega) (by decide) rfl rfl
  rw [hw0] at w1
  refine w1.up (by omega) ?_
  rintro r M1 ⟨rfl, rfl⟩
  have w2 := s_toldOf (K := K) (d := d) (I := I) (J := J) hS (t := t) (i := 1) (by omega) (by decide) rfl rfl
  rw [hw1] at w2
  refine w2.up (by omega) ?_
  rintro r M1 ⟨rfl, rfl⟩
  have w3 := s_toldOf (K := K) (d := d) (I := I) (J := J) hS (t := t) (i := 2) (by omega) (by decide) rfl rfl
  rw [hw2] at w3
  refine w3.up (by omega) ?_
  rintro r M1 ⟨rfl, rfl⟩
  have w4 := s_sortOf (K := K) (d := d) (I := I) (J := J) hKt hS hn hn6 (t := g) (by omega) hkg hlg rfl
  rw [hsg] at w4
  refine w4.up (by omega) ?_
  rintro r M1 ⟨rfl, rfl⟩
  refine And.intro (fun hb => absurd hb (by decide)) (fun _ => ?_)
  have w5 := s_sortOf (K := K) (d := d) (I := I) (J := J) hKt hS hn hn6 (t := k) (by omega) hkk hlk rfl
  rw [hsk] at w5
  refine w5.up (by omega) ?_
  rintro r M1 ⟨rfl, rfl⟩
  refine And.intro (fun _ => ?_) (fun hb => absurd (by decide) hb)
  refine And.intro (fun hb => absurd hb (by decide)) (fun _ => ?_)
  refine And.intro (fun _ => ?_) (fun hb => absurd (by decide) hb)
  refine And.intro (fun hb => absurd hb (by decide)) (fun _ => ?_)
  refine And.intro (fun hb => absurd hb (by decide)) (fun _ => ?_)
  refine And.intro (fun _ => ?_) (fun hb => absurd (by decide) hb)
  refine Rf.weak [(0, .ref o), (1, .int (nI t)), (5, .int (nI 0)), (8, .int (nI g)), (9, .int (nI k))] ⟨rfl, rfl, rfl, rfl, rfl, trivial⟩ (H24t_0 (d := d) (t := t) (l := g) (c := k) hK hM hA ht (by omega) (by omega) (by omega) hG0 hG1 hG2 hK0 hK1 hK2 (fun I9 J9 q9 f9 => hp I9 J9 q9 f9))
set_option maxHeartbeats 4000000 in
theorem H24_231 [NeZero p] {t S n g k kg kk d' : Nat} {z0 : Int32} {G0 G1 G2 K0 K1 K2 : TR p D h} {post : Option Value → Me → Prop} (hK : Ksp K) (hM : HsM M o) (hA : TwA I (o + 1) p h D) (hz0 : z0 = nI t) (hG0 : Re I p D h (o + 26 + 3 * g + 0) G0) (hG1 : Re I p D h (o + 26 + 3 * g + 1) G1) (hG2 : Re I p D h (o + 26 + 3 * g + 2) G2) (hK0 : Re I p D h (o + 26 + 3 * k + 0) K0) (hK1 : Re I p D h (o + 26 + 3 * k + 1) K1) (hK2 : Re I p D h (o + 26 + 3 * k + 2) K2) (hKt : Kst K) (hS : StM M S) (hSo : S + 3 ≤ o) (hn : I S 0 = nI n) (hn6 : n ≤ 60) (htn : t ≤ n) (hw0 : I (S + 2) (3 * t + 0) = nI g) (hw1 : I (S + 2) (3 * t + 1) = nI k) (hw2 : I (S + 2) (3 * t + 2) = nI 1) (ht : t < 60) (hg : g < t) (hk : k < t) (hkg : I (S + 1) g = nI kg) (hlg : kg < 14) (hsg : srt kg = 2) (hkk : I (S + 1) k = nI kk) (hlk : kk < 14) (hsk : srt kk = 3) (hd : d + 10 ≤ d') (hp : ∀ I1 J1, OutC I1 o p t 2 (mtF p D h G0 G1 G2 K0 K1 K2 1) → FrC I I1 o t → post (some (.int (mtF p D h G0 G1 G2 K0 K1 K2 1).1)) (St M I1 J1)) : Ok K d' 24 [.ref o, .int z0, .ref S] (St M I J) post := by
  refine Ok.up (d := d + 10) (post := post) ?_ hd (fun _ _ h => h)
  subst hz0
  refine Ok.go (e := me_24) rfl rfl (Nat.le_of_ble_eq_true rfl) hM.c ?_
  refine Rf.go 300 [82] ?_
  have w1 := s_toldOf (K := K) (d := d) (I := I) (J := J) hS (t := t) (i := 0) (by omega) (by decide) rfl rfl
  rw [hw0] at w1
  refine w1.up (by omega) ?_
  rintro r M1 ⟨rfl, rfl⟩
  have w2 := s_toldOf (K := K) (d := d) (I := I) (J := J) hS (t := t) (i := 1) (by omega) (by decide) rfl rfl
  rw [hw1] at w2
  refine w2.up (by omega) ?_
  rintro r M1 ⟨rfl, rfl⟩
  have w3 := s_toldOf (K := K) (d := d) (I := I) (J := J) hS (t := t) (i := 2) (by omega) (by decide) rfl rfl
  rw [hw2] at w3
  refine w3.up (by omega) ?_
  rintro r M1 ⟨rfl, rfl⟩
  have w4 := s_sortOf (K := K) (d := d) (I := I) (J := J) hKt hS hn hn6 (t := g) (by omega) hkg hlg rfl
  rw [hsg] at w4
  refine w4.up (by omega) ?_
  rintro r M1 ⟨rfl, rfl⟩
  refine And.intro (fun hb => absurd hb (by decide)) (fun _ => ?_)
  have w5 := s_sortOf (K := K) (d := d) (I := I) (J := J) hKt hS hn hn6 (t := k) (by omega) hkk hlk rfl
  rw [hsk] at w5
  refine w5.up (by omega) ?_
  rintro r M1 ⟨rfl, rfl⟩
  refine And.intro (fun _ => ?_) (fun hb => absurd (by decide) hb)
  refine And.intro (fun hb => absurd hb (by decide)) (fun _ => ?_)
  refine And.intro (fun _ => ?_) (fun hb => absurd (by decide) hb)
  refine And.intro (fun hb => absurd hb (by decide)) (fun _ => ?_)
  refine And.intro (fun hb => absurd hb (by decide)) (fun _ => ?_)
  refine And.intro (fun _ => ?_) (fun hb => absurd (by decide) hb)
  refine Rf.weak [(0, .ref o), (1, .int (nI t)), (5, .int (nI 1)), (8, .int (nI g)), (9, .int (nI k))] ⟨rfl, rfl, rfl, rfl, rfl, trivial⟩ (H24t_1 (d := d) (t := t) (l := g) (c := k) hK hM hA ht (by omega) (by omega) (by omega) hG0 hG1 hG2 hK0 hK1 hK2 (fun I9 J9 q9 f9 => hp I9 J9 q9 f9))
set_option maxHeartbeats 4000000 in
theorem H24_320 [NeZero p] {t S n g k kg kk d' : Nat} {z0 : Int32} {G0 G1 G2 K0 K1 K2 : TR p D h} {post : Option Value → Me → Prop} (hK : Ksp K) (hM : HsM M o) (hA : TwA I (o + 1) p h D) (hz0 : z0 = nI t) (hG0 : Re I p D h (o + 26 + 3 * g + 0) G0) (hG1 : Re I p D h (o + 26 + 3 * g + 1) G1) (hG2 : Re I p D h (o + 26 + 3 * g + 2) G2) (hK0 : Re I p D h (o + 26 + 3 * k + 0) K0) (hK1 : Re I p D h (o + 26 + 3 * k + 1) K1) (hK2 : Re I p D h (o + 26 + 3 * k + 2) K2) (hKt : Kst K) (hS : StM M S) (hSo : S + 3 ≤ o) (hn : I S 0 = nI n) (hn6 : n ≤ 60) (htn : t ≤ n) (hw0 : I (S + 2) (3 * t + 0) = nI g) (hw1 : I (S + 2) (3 * t + 1) = nI k) (hw2 : I (S + 2) (3 * t + 2) = nI 0) (ht : t < 60) (hg : g < t) (hk : k < t) (hkg : I (S + 1) g = nI kg) (hlg : kg < 14) (hsg : srt kg = 3) (hkk : I (S + 1) k = nI kk) (hlk : kk < 14) (hsk : srt kk = 2) (hd : d + 10 ≤ d') (hp : ∀ I1 J1, OutC I1 o p t 2 (mtF p D h K0 K1 K2 G0 G1 G2 0) → FrC I I1 o t → post (some (.int (mtF p D h K0 K1 K2 G0 G1 G2 0).1)) (St M I1 J1)) : Ok K d' 24 [.ref o, .int z0, .ref S] (St M I J) post := by
  refine Ok.up (d := d + 10) (post := post) ?_ hd (fun _ _ h => h)
  subst hz0
  refine Ok.go (e := me_24) rfl rfl (Nat.le_of_ble_eq_true rfl) hM.c ?_
  refine Rf.go 300 [82] ?_
  have w1 := s_toldOf (K := K) (d := d) (I := I) (J := J) hS (t := t) (i := 0) (by omega) (by decide) rfl rfl
  rw [hw0] at w1
  refine w1.up (by omega) ?_
  rintro r M1 ⟨rfl, rfl⟩
  have w2 := s_toldOf (K := K) (d := d) (I := I) (J := J) hS (t := t) (i := 1) (by omega) (by decide) rfl rfl
  rw [hw1] at w2
  refine w2.up (by omega) ?_
  rintro r M1 ⟨rfl, rfl⟩
  have w3 := s_toldOf (K := K) (d := d) (I := I) (J := J) hS (t := t) (i := 2) (by omega) (by decide) rfl rfl
  rw [hw2] at w3
  refine w3.up (by omega) ?_
  rintro r M1 ⟨rfl, rfl⟩
  have w4 := s_sortOf (K := K) (d := d) (I := I) (J := J) hKt hS hn hn6 (t := g) (by omega) hkg hlg rfl
  rw [hsg] at w4
  refine w4.up (by omega) ?_
  rintro r M1 ⟨rfl, rfl⟩
  refine And.intro (fun _ => ?_) (fun hb => absurd (by decide) hb)
  have w5 := s_sortOf (K := K) (d := d) (I := I) (J := J) hKt hS hn hn6 (t := k) (by omega) hkk hlk rfl
  rw [hsk] at w5
  refine w5.up (by omega) ?_
  rintro r M1 ⟨rfl, rfl⟩
  refine And.intro (fun hb => absurd hb (by decide)) (fun _ => ?_)
  refine And.intro (fun _ => ?_) (fun hb => absurd (by decide) hb)
  refine And.intro (fun _ => ?_) (fun hb => absurd (by decide) hb)
  refine And.intro (fun _ => ?_) (fun hb => absurd (by decide) hb)
  refine And.intro (fun hb => absurd hb (by decide)) (fun _ => ?_)
  refine And.intro (fun _ => ?_) (fun hb => absurd (by decide) hb)
  refine Rf.weak [(0, .ref o), (1, .int (nI t)), (5, .int (nI 0)), (8, .int (nI k)), (9, .int (nI g))] ⟨rfl, rfl, rfl, rfl, rfl, trivial⟩ (H24t_0 (d := d) (t := t) (l := k) (c := g) hK hM hA ht (by omega) (by omega) (by omega) hK0 hK1 hK2 hG0 hG1 hG2 (fun I9 J9 q9 f9 => hp I9 J9 q9 f9))
set_option maxHeartbeats 4000000 in
theorem H24_321 [NeZero p] {t S n g k kg kk d' : Nat} {z0 : Int32} {G0 G1 G2 K0 K1 K2 : TR p D h} {post : Option Value → Me → Prop} (hK : Ksp K) (hM : HsM M o) (hA : TwA I (o + 1) p h D) (hz0 : z0 = nI t) (hG0 : Re I p D h (o + 26 + 3 * g + 0) G0) (hG1 : Re I p D h (o + 26 + 3 * g + 1) G1) (hG2 : Re I p D h (o + 26 + 3 * g + 2) G2) (hK0 : Re I p D h (o + 26 + 3 * k + 0) K0) (hK1 : Re I p D h (o + 26 + 3 * k + 1) K1) (hK2 : Re I p D h (o + 26 + 3 * k + 2) K2) (hKt : Kst K) (hS : StM M S) (hSo : S + 3 ≤ o) (hn : I S 0 = nI n) (hn6 : n ≤ 60) (htn : t ≤ n) (hw0 : I (S + 2) (3 * t + 0) = nI g) (hw1 : I (S + 2) (3 * t + 1) = nI k) (hw2 : I (S + 2) (3 * t + 2) = nI 1) (ht : t < 60) (hg : g < t) (hk : k < t) (hkg : I (S + 1) g = nI kg) (hlg : kg < 14) (hsg : srt kg = 3) (hkk : I (S + 1) k = nI kk) (hlk : kk < 14) (hsk : srt kk = 2) (hd : d + 10 ≤ d') (hp : ∀ I1 J1, OutC I1 o p t 2 (mtF p D h K0 K1 K2 G0 G1 G2 1) → FrC I I1 o t → post (some (.int (mtF p D h K0 K1 K2 G0 G1 G2 1).1)) (St M I1 J1)) : Ok K d' 24 [.ref o, .int z0, .ref S] (St M I J) post := by
  refine Ok.up (d := d + 10) (post := post) ?_ hd (fun _ _ h => h)
  subst hz0
  refine Ok.go (e := me_24) rfl rfl (Nat.le_of_ble_eq_true rfl) hM.c ?_
  refine Rf.go 300 [82] ?_
  have w1 := s_toldOf (K := K) (d := d) (I := I) (J := J) hS (t := t) (i := 0) (by omega) (by decide) rfl rfl
  rw [hw0] at w1
  refine w1.up (by omega) ?_
  rintro r M1 ⟨rfl, rfl⟩
  have w2 := s_toldOf (K := K) (d := d) (I := I) (J := J) hS (t := t) (i := 1) (by omega) (by decide) rfl rfl
  rw [hw1] at w2
  refine w2.up (by omega) ?_
  rintro r M1 ⟨rfl, rfl⟩
  have w3 := s_toldOf (K := K) (d := d) (I := I) (J := J) hS (t := t) (i := 2) (by omega) (by decide) rfl rfl
  rw [hw2] at w3
  refine w3.up (by omega) ?_
  rintro r M1 ⟨rfl, rfl⟩
  have w4 := s_sortOf (K := K) (d := d) (I := I) (J := J) hKt hS hn hn6 (t := g) (by omega) hkg hlg rfl
  rw [hsg] at w4
  refine w4.up (by omega) ?_
  rintro r M1 ⟨rfl, rfl⟩
  refine And.intro (fun _ => ?_) (fun hb => absurd (by decide) hb)
  have w5 := s_sortOf (K := K) (d := d) (I := I) (J := J) hKt hS hn hn6 (t := k) (by omega) hkk hlk rfl
  rw [hsk] at w5
  refine w5.up (by omega) ?_
  rintro r M1 ⟨rfl, rfl⟩
  refine And.intro (fun hb => absurd hb (by decide)) (fun _ => ?_)
  refine And.intro (fun _ => ?_) (fun hb => absurd (by decide) hb)
  refine And.intro (fun _ => ?_) (fun hb => absurd (by decide) hb)
  refine And.intro (fun _ => ?_) (fun hb => absurd (by decide) hb)
  refine And.intro (fun hb => absurd hb (by decide)) (fun _ => ?_)
  refine And.intro (fun _ => ?_) (fun hb => absurd (by decide) hb)
  refine Rf.weak [(0, .ref o), (1, .int (nI t)), (5, .int (nI 1)), (8, .int (nI k)), (9, .int (nI g))] ⟨rfl, rfl, rfl, rfl, rfl, trivial⟩ (H24t_1 (d := d) (t := t) (l := k) (c := g) hK hM hA ht (by omega) (by omega) (by omega) hK0 hK1 hK2 hG0 hG1 hG2 (fun I9 J9 q9 f9 => hp I9 J9 q9 f9))
set_option maxHeartbeats 4000000 in
theorem H24_330 [NeZero p] {t S n g k kg kk d' : Nat} {z0 : Int32} {G0 G1 G2 K0 K1 K2 : TR p D h} {post : Option Value → Me → Prop} (hK : Ksp K) (hM : HsM M o) (hA : TwA I (o + 1) p h D) (hz0 : z0 = nI t) (hG0 : Re I p D h (o + 26 + 3 * g + 0) G0) (hG1 : Re I p D h (o + 26 + 3 * g + 1) G1) (hG2 : Re I p D h (o + 26 + 3 * g + 2) G2) (hK0 : Re I p D h (o + 26 + 3 * k + 0) K0) (hK1 : Re I p D h (o + 26 + 3 * k + 1) K1) (hK2 : Re I p D h (o + 26 + 3 * k + 2) K2) (hKt : Kst K) (hS : StM M S) (hSo : S + 3 ≤ o) (hn : I S 0 = nI n) (hn6 : n ≤ 60) (htn : t ≤ n) (hw0 : I (S + 2) (3 * t + 0) = nI g) (hw1 : I (S + 2) (3 * t + 1) = nI k) (hw2 : I (S + 2) (3 * t + 2) = nI 0) (ht : t < 60) (hg : g < t) (hk : k < t) (hkg : I (S + 1) g = nI kg) (hlg : kg < 14) (hsg : srt kg = 3) (hkk : I (S + 1) k = nI kk) (hlk : kk < 14) (hsk : srt kk = 3) (hd : d + 10 ≤ d') (hp : ∀ I1 J1, OutC I1 o p t 2 (ccF p D h G0 G1 G2 K0 K1 K2 0) → FrC I I1 o t → post (some (.int (ccF p D h G0 G1 G2 K0 K1 K2 0).1)) (St M I1 J1)) : Ok K d' 24 [.ref o, .int z0, .ref S] (St M I J) post := by
  refine Ok.up (d := d + 10) (post := post) ?_ hd (fun _ _ h => h)
  subst hz0
  refine Ok.go (e := me_24) rfl rfl (Nat.le_of_ble_eq_true rfl) hM.c ?_
  refine Rf.go 300 [82] ?_
  have w1 := s_toldOf (K := K) (d := d) (I := I) (J := J) hS (t := t) (i := 0) (by omega) (by decide) rfl rfl
  rw [hw0] at w1
  refine w1.up (by omega) ?_
  rintro r M1 ⟨rfl, rfl⟩
  have w2 := s_toldOf (K := K) (d := d) (I := I) (J := J) hS (t := t) (i := 1) (by omega) (by decide) rfl rfl
  rw [hw1] at w2
  refine w2.up (by omega) ?_
  rintro r M1 ⟨rfl, rfl⟩
  have w3 := s_toldOf (K := K) (d := d) (I := I) (J := J) hS (t := t) (i := 2) (by omega) (by decide) rfl rfl
  rw [hw2] at w3
  refine w3.up (by omega) ?_
  rintro r M1 ⟨rfl, rfl⟩
  have w4 := s_sortOf (K := K) (d := d) (I := I) (J := J) hKt hS hn hn6 (t := g) (by omega) hkg hlg rfl
  rw [hsg] at w4
  refine w4.up (by omega) ?_
  rintro r M1 ⟨rfl, rfl⟩
  refine And.intro (fun _ => ?_) (fun hb => absurd (by decide) hb)
  have w5 := s_sortOf (K := K) (d := d) (I := I) (J := J) hKt hS hn hn6 (t := k) (by omega) hkk hlk rfl
  rw [hsk] at w5
  refine w5.up (by omega) ?_
  rintro r M1 ⟨rfl, rfl⟩
  refine And.intro (fun _ => ?_) (fun hb => absurd (by decide) hb)
  refine And.intro (fun _ => ?_) (fun hb => absurd (by decide) hb)
  refine And.intro (fun _ => ?_) (fun hb => absurd (by decide) hb)
  refine And.intro (fun _ => ?_) (fun hb => absurd (by decide) hb)
  refine And.intro (fun hb => absurd hb (by decide)) (fun _ => ?_)
  refine And.intro (fun hb => absurd hb (by decide)) (fun _ => ?_)
  refine H10_2 (d := d) (s := g) (t := k)  hK hM hA rfl rfl rfl (by omega) (by omega) hG0 hG1 hK0 hK1 (by omega) (fun z6 z7 => ?_) (fun z8 => ?_)
  · refine And.intro (fun hb => absurd hb (by decide)) (fun _ => ?_)
    refine H10_3 (d := d) (s := g) (t := k)  hK hM hA rfl rfl rfl (by omega) (by omega) hG0 hG1 hG2 hK0 hK1 hK2 (by omega) (fun z9 z10 z11 => ?_) (fun z12 => ?_)
    · refine And.intro (fun hb => absurd hb (by decide)) (fun _ => ?_)
      rw [show ccF p D h G0 G1 G2 K0 K1 K2 0 = rzN (Int32.ofInt (-3)) D h from (if_pos ⟨z6, z7⟩).trans (if_pos z11)] at hp
      exact ⟨rfl, hp I J (OutC.no (by decide) hA) (fun a h1 h2 h3 => rfl)⟩
    · refine And.intro (fun _ => ?_) (fun hb => absurd (by decide) hb)
      rw [show ccF p D h G0 G1 G2 K0 K1 K2 0 = rzN (Int32.ofInt (-4)) D h from (if_pos ⟨z6, z7⟩).trans (if_neg (fun w => z12 ⟨z6, z7, w⟩))] at hp
      exact ⟨rfl, hp I J (OutC.no (by decide) hA) (fun a h1 h2 h3 => rfl)⟩
  · refine And.intro (fun _ => ?_) (fun hb => absurd (by decide) hb)
    refine H27 (d := d) (g := g) (k := k) hK hM hA rfl rfl (by omega) (by omega) hG0 hG1 hG2 hK0 hK1 hK2 (by omega) (fun I13 J13 q13_0 q13_1 q13_2 f13 => ?_)
    have q14 := (hG0).keep (f13 _ (by omega) (by omega) (by omega) (by omega) (by omega) (by omega) (by omega) (by omega) (by omega))
    have q15 := (hG1).keep (f13 _ (by omega) (by omega) (by omega) (by omega) (by omega) (by omega) (by omega) (by omega) (by omega))
    have q16 := (hG2).keep (f13 _ (by omega) (by omega) (by omega) (by omega) (by omega) (by omega) (by omega) (by omega) (by omega))
    have hA17 := (hA).keep (fun a h1 h2 => f13 a (by omega) (by omega) (by omega) (by omega) (by omega) (by omega) (by omega) (by omega) (by omega))
    rw [show ccF p D h G0 G1 G2 K0 K1 K2 0 = mtF p D h ((TI p D h).mul ((TI p D h).add ((TI p D h).sub K0 G0) ((TI p D h).sub K0 G0)) (iv p D h (ldE p D h ((TI p D h).add ((TI p D h).sub K0 G0) ((TI p D h).sub K0 G0)) ((TI p D h).add ((TI p D h).sub K1 G1) ((TI p D h).sub K1 G1))))) ((TI p D h).mul ((TI p D h).add ((TI p D h).sub K1 G1) ((TI p D h).sub K1 G1)) (iv p D h (ldE p D h ((TI p D h).add ((TI p D h).sub K0 G0) ((TI p D h).sub K0 G0)) ((TI p D h).add ((TI p D h).sub K1 G1) ((TI p D h).sub K1 G1))))) ((TI p D h).mul ((TI p D h).sub ((TI p D h).sub ((TI p D h).add ((TI p D h).mul G0 G0) ((TI p D h).mul G1 G1)) G2) ((TI p D h).sub ((TI p D h).add ((TI p D h).mul K0 K0) ((TI p D h).mul K1 K1)) K2)) (iv p D h (ldE p D h ((TI p D h).add ((TI p D h).sub K0 G0) ((TI p D h).sub K0 G0)) ((TI p D h).add ((TI p D h).sub K1 G1) ((TI p D h).sub K1 G1))))) G0 G1 G2 0 from if_neg z8] at hp
    refine Rf.weak [(0, .ref o), (1, .int (nI t)), (5, .int (nI 0)), (8, .int (nI 60)), (9, .int (nI g))] ⟨rfl, rfl, rfl, rfl, rfl, trivial⟩ (H24t_0 (d := d) (t := t) (l := 60) (c := g) hK hM hA17 ht (by omega) (by omega) (by omega) q13_0 q13_1 q13_2 q14 q15 q16 (fun I9 J9 q9 f9 => hp I9 J9 q9 (fun a h1 h2 h3 => (f9 a h1 h2 h3).trans ((f13 a (by omega) (by omega) (by omega) (by omega) (by omega) (by omega) (by omega) (by omega) (by omega))))))
set_option maxHeartbeats 4000000 in
theorem H24_331 [NeZero p] {t S n g k kg kk d' : Nat} {z0 : Int32} {G0 G1 G2 K0 K1 K2 : TR p D h} {post : Option Value → Me → Prop} (hK : Ksp K) (hM : HsM M o) (hA : TwA I (o + 1) p h D) (hz0 : z0 = nI t) (hG0 : Re I p D h (o + 26 + 3 * g + 0) G0) (hG1 : Re I p D h (o + 26 + 3 * g + 1) G1) (hG2 : Re I p D h (o + 26 + 3 * g + 2) G2) (hK0 : Re I p D h (o + 26 + 3 * k + 0) K0) (hK1 : Re I p D h (o + 26 + 3 * k + 1) K1) (hK2 : Re I p D h (o + 26 + 3 * k + 2) K2) (hKt : Kst K) (hS : StM M S) (hSo : S + 3 ≤ o) (hn : I S 0 = nI n) (hn6 : n ≤ 60) (htn : t ≤ n) (hw0 : I (S + 2) (3 * t + 0) = nI g) (hw1 : I (S + 2) (3 * t + 1) = nI k) (hw2 : I (S + 2) (3 * t + 2) = nI 1) (ht : t < 60) (hg : g < t) (hk : k < t) (hkg : I (S + 1) g = nI kg) (hlg : kg < 14) (hsg : srt kg = 3) (hkk : I (S + 1) k = nI kk) (hlk : kk < 14) (hsk : srt kk = 3) (hd : d + 10 ≤ d') (hp : ∀ I1 J1, OutC I1 o p t 2 (ccF p D h G0 G1 G2 K0 K1 K2 1) → FrC I I1 o t → post (some (.int (ccF p D h G0 G1 G2 K0 K1 K2 1).1)) (St M I1 J1)) : Ok K d' 24 [.ref o, .int z0, .ref S] (St M I J) post := by
  refine Ok.up (d := d + 10) (post := post) ?_ hd (fun _ _ h => h)
  subst hz0
  refine Ok.go (e := me_24) rfl rfl (Nat.le_of_ble_eq_true rfl) hM.c ?_
  refine Rf.go 300 [82] ?_
  have w1 := s_toldOf (K := K) (d := d) (I := I) (J := J) hS (t := t) (i := 0) (by omega) (by decide) rfl rfl
  rw [hw0] at w1
  refine w1.up (by omega) ?_
  rintro r M1 ⟨rfl, rfl⟩
  have w2 := s_toldOf (K := K) (d := d) (I := I) (J := J) hS (t := t) (i := 1) (by omega) (by decide) rfl rfl
  rw [hw1] at w2
  refine w2.up (by omega) ?_
  rintro r M1 ⟨rfl, rfl⟩
  have w3 := s_toldOf (K := K) (d := d) (I := I) (J := J) hS (t := t) (i := 2) (by omega) (by decide) rfl rfl
  rw [hw2] at w3
  refine w3.up (by omega) ?_
  rintro r M1 ⟨rfl, rfl⟩
  have w4 := s_sortOf (K := K) (d := d) (I := I) (J := J) hKt hS hn hn6 (t := g) (by omega) hkg hlg rfl
  rw [hsg] at w4
  refine w4.up (by omega) ?_
  rintro r M1 ⟨rfl, rfl⟩
  refine And.intro (fun _ => ?_) (fun hb => absurd (by decide) hb)
  have w5 := s_sortOf (K := K) (d := d) (I := I) (J := J) hKt hS hn hn6 (t := k) (by omega) hkk hlk rfl
  rw [hsk] at w5
  refine w5.up (by omega) ?_
  rintro r M1 ⟨rfl, rfl⟩
  refine And.intro (fun _ => ?_) (fun hb => absurd (by decide) hb)
  refine And.intro (fun _ => ?_) (fun hb => absurd (by decide) hb)
  refine And.intro (fun _ => ?_) (fun hb => absurd (by decide) hb)
  refine And.intro (fun _ => ?_) (fun hb => absurd (by decide) hb)
  refine And.intro (fun hb => absurd hb (by decide)) (fun _ => ?_)
  refine And.intro (fun hb => absurd hb (by decide)) (fun _ => ?_)
  refine H10_2 (d := d) (s := g) (t := k)  hK hM hA rfl rfl rfl (by omega) (by omega) hG0 hG1 hK0 hK1 (by omega) (fun z6 z7 => ?_) (fun z8 => ?_)
  · refine And.intro (fun hb => absurd hb (by decide)) (fun _ => ?_)
    refine H10_3 (d := d) (s := g) (t := k)  hK hM hA rfl rfl rfl (by omega) (by omega) hG0 hG1 hG2 hK0 hK1 hK2 (by omega) (fun z9 z10 z11 => ?_) (fun z12 => ?_)
    · refine And.intro (fun hb => absurd hb (by decide)) (fun _ => ?_)
      rw [show ccF p D h G0 G1 G2 K0 K1 K2 1 = rzN (Int32.ofInt (-3)) D h from (if_pos ⟨z6, z7⟩).trans (if_pos z11)] at hp
      exact ⟨rfl, hp I J (OutC.no (by decide) hA) (fun a h1 h2 h3 => rfl)⟩
    · refine And.intro (fun _ => ?_) (fun hb => absurd (by decide) hb)
      rw [show ccF p D h G0 G1 G2 K0 K1 K2 1 = rzN (Int32.ofInt (-4)) D h from (if_pos ⟨z6, z7⟩).trans (if_neg (fun w => z12 ⟨z6, z7, w⟩))] at hp
      exact ⟨rfl, hp I J (OutC.no (by decide) hA) (fun a h1 h2 h3 => rfl)⟩
  · refine And.intro (fun _ => ?_) (fun hb => absurd (by decide) hb)
    refine H27 (d := d) (g := g) (k := k) hK hM hA rfl rfl (by omega) (by omega) hG0 hG1 hG2 hK0 hK1 hK2 (by omega) (fun I13 J13 q13_0 q13_1 q13_2 f13 => ?_)
    have q14 := (hG0).keep (f13 _ (by omega) (by omega) (by omega) (by omega) (by omega) (by omega) (by omega) (by omega) (by omega))
    have q15 := (hG1).keep (f13 _ (by omega) (by omega) (by omega) (by omega) (by omega) (by omega) (by omega) (by omega) (by omega))
    have q16 := (hG2).keep (f13 _ (by omega) (by omega) (by omega) (by omega) (by omega) (by omega) (by omega) (by omega) (by omega))
    have hA17 := (hA).keep (fun a h1 h2 => f13 a (by omega) (by omega) (by omega) (by omega) (by omega) (by omega) (by omega) (by omega) (by omega))
    rw [show ccF p D h G0 G1 G2 K0 K1 K2 1 = mtF p D h ((TI p D h).mul ((TI p D h).add ((TI p D h).sub K0 G0) ((TI p D h).sub K0 G0)) (iv p D h (ldE p D h ((TI p D h).add ((TI p D h).sub K0 G0) ((TI p D h).sub K0 G0)) ((TI p D h).add ((TI p D h).sub K1 G1) ((TI p D h).sub K1 G1))))) ((TI p D h).mul ((TI p D h).add ((TI p D h).sub K1 G1) ((TI p D h).sub K1 G1)) (iv p D h (ldE p D h ((TI p D h).add ((TI p D h).sub K0 G0) ((TI p D h).sub K0 G0)) ((TI p D h).add ((TI p D h).sub K1 G1) ((TI p D h).sub K1 G1))))) ((TI p D h).mul ((TI p D h).sub ((TI p D h).sub ((TI p D h).add ((TI p D h).mul G0 G0) ((TI p D h).mul G1 G1)) G2) ((TI p D h).sub ((TI p D h).add ((TI p D h).mul K0 K0) ((TI p D h).mul K1 K1)) K2)) (iv p D h (ldE p D h ((TI p D h).add ((TI p D h).sub K0 G0) ((TI p D h).sub K0 G0)) ((TI p D h).add ((TI p D h).sub K1 G1) ((TI p D h).sub K1 G1))))) G0 G1 G2 1 from if_neg z8] at hp
    refine Rf.weak [(0, .ref o), (1, .int (nI t)), (5, .int (nI 1)), (8, .int (nI 60)), (9, .int (nI g))] ⟨rfl, rfl, rfl, rfl, rfl, trivial⟩ (H24t_1 (d := d) (t := t) (l := 60) (c := g) hK hM hA17 ht (by omega) (by omega) (by omega) q13_0 q13_1 q13_2 q14 q15 q16 (fun I9 J9 q9 f9 => hp I9 J9 q9 (fun a h1 h2 h3 => (f9 a h1 h2 h3).trans ((f13 a (by omega) (by omega) (by omega) (by omega) (by omega) (by omega) (by omega) (by omega) (by omega))))))
end H7
