/-! The model: printed by mgen.py -/
section N1
variable {K : Ka} {d m p h : Nat} {M : Me} {I : Nat → Nat → Int32} {J : Nat → Nat → Int64} {D : Nat → Nat → Nat} {G : Nat → Nat → Int32}
theorem Rf.put {d9 : Nat} {code : List Instr} {k q : Nat} {L : Lf} {st : List Value} {x : Int32} {post : Option Value → Me → Prop} (h9 : Rf K d9 code k L st (St M (rg (u2 I m q x) m G) J) post) : Rf K d9 code k L st (wI (St M (rg I m G) J) (u2 (mI (St M (rg I m G) J)) m q x)) post := by
  rw [← rg_u2 (by omega)] at h9
  exact h9
theorem MoA.put [NeZero p] {q : Nat} {x : Int32} (hA : MoA I m p h D) (h0 : q ≠ 0) (h1 : q ≠ 1) : MoA (u2 I m q x) m p h D := hA.keep (by rw [u2_at, if_neg (fun e => h0 e.symm)]) (by rw [u2_at, if_neg (fun e => h1 e.symm)]) (u2_ne (by omega)) (u2_ne (by omega))
theorem inb60 {a t : Nat} (hM : MoM M m) (ht : t < 60) : inb (nI t) (mH (St M I J) (m + 5)).2 = true := by
  show inb (nI t) (mH M (m + 5)).2 = true
  rw [(hM.a60 (a := m + 5) (by omega)).2]
  exact inb_n ht (by omega)
theorem srt_at {t : Nat} (ht : t < 60) : rg I m G (m + 5) (nI t).toNatClampNeg = I (m + 5) t := by rw [rg_ne (by omega), nI_clamp (by omega)]
set_option maxHeartbeats 4000000 in
theorem M125 [NeZero p] { d' : Nat} {A B C : TR p D h} {post : Option Value → Me → Prop} (hM : MoM M m) (hA : MoA I m p h D) (hA0 : G 0 = vE p D h A) (hB0 : G 1 = vE p D h B) (hC0 : G 2 = vE p D h C) (hd : d + 3 ≤ d') (hp : ∀ G1 J1, G1 0 = vE p D h ((TI p D h).mul A (iv p D h (ldE p D h A B))) → G1 1 = vE p D h ((TI p D h).mul B (iv p D h (ldE p D h A B))) → G1 2 = vE p D h ((TI p D h).mul C (iv p D h (ldE p D h A B))) → (∀ s, s ≠ 0 → s ≠ 1 → s ≠ 2 → s ≠ 3 → (s < 32 ∨ 35 ≤ s) → G1 s = G s) → post none (St M (rg (u2 I m 16 (Int32.ofInt 2)) m G1) J1)) : Ok K d' 125 [.ref m] (St M (rg I m G) J) post := by
  refine Ok.up (d := d + 3) (post := post) ?_ hd (fun _ _ h => h)
  refine Ok.go (e := me_125) rfl rfl (Nat.le_of_ble_eq_true rfl) hM.c ?_
  refine Rf.go 250 [31] ?_
  refine m_isZero (d := d) (a := 1) hM rfl (by decide) hA.1.2.2.1 hA.1.2.2.2.1.2 hB0 (by omega) (fun z1 => ?_) (fun z1 => ?_)
  · refine And.intro (fun hb => absurd hb (by decide)) (fun _ => ?_)
    refine m_invert (d := d) (r := 3) (a := 0) hM hA rfl rfl (by decide) (by decide) (by decide) hA0 (by omega) (fun G2 J2 q2 f2 => ?_)
    refine And.intro (fun hb => absurd hb (by decide)) (fun _ => ?_)
    have q3 := ((f2 0 (by decide) (by decide)).trans hA0)
    refine x_times (d := d) (r := 0) (a := 0) (b := 3) hM hA.1 (by decide) (by decide) rfl (by decide) (by decide) (by decide) q3 q2 (by omega) (fun G4 J4 q4 f4 => ?_)
    refine And.intro (fun hb => absurd hb (by decide)) (fun _ => ?_)
    have q5 := ((f4 1 (by decide)).trans ((f2 1 (by decide) (by decide)).trans hB0))
    have q6 := ((f4 3 (by decide)).trans q2)
    refine x_times (d := d) (r := 1) (a := 1) (b := 3) hM hA.1 (by decide) (by decide) rfl (by decide) (by decide) (by decide) q5 q6 (by omega) (fun G7 J7 q7 f7 => ?_)
    refine And.intro (fun hb => absurd hb (by decide)) (fun _ => ?_)
    have q8 := ((f7 2 (by decide)).trans ((f4 2 (by decide)).trans ((f2 2 (by decide) (by decide)).trans hC0)))
    have q9 := ((f7 3 (by decide)).trans q6)
    refine x_times (d := d) (r := 2) (a := 2) (b := 3) hM hA.1 (by decide) (by decide) rfl (by decide) (by decide) (by decide) q8 q9 (by omega) (fun G10 J10 q10 f10 => ?_)
    refine And.intro (fun _ => ?_) (fun hb => absurd (by decide) hb)
    refine And.intro hM.c ?_
    refine Rf.put ?_
    refine Rf.go 250 [31] ?_
    have hA11 := hA.put (x := Int32.ofInt 2) (q := 16) (by decide) (by decide)
    have q12 := ((f10 0 (by decide)).trans ((f7 0 (by decide)).trans q4))
    have q13 := ((f10 1 (by decide)).trans q7)
    exact ⟨rfl, hp G10 J10 (by rw [ldE_t z1]; exact q12) (by rw [ldE_t z1]; exact q13) (by rw [ldE_t z1]; exact q10) (fun s h1 h2 h3 h4 h5 => ((((f10 s (by omega)).trans (f7 s (by omega))).trans (f4 s (by omega))).trans (f2 s (by omega) (by omega))))⟩
  · refine And.intro (fun _ => ?_) (fun hb => absurd (by decide) hb)
    refine m_invert (d := d) (r := 3) (a := 1) hM hA rfl rfl (by decide) (by decide) (by decide) hB0 (by omega) (fun G14 J14 q14 f14 => ?_)
    refine And.intro (fun hb => absurd hb (by decide)) (fun _ => ?_)
    have q15 := ((f14 0 (by decide) (by decide)).trans hA0)
    refine x_times (d := d) (r := 0) (a := 0) (b := 3) hM hA.1 (by decide) (by decide) rfl (by decide) (by decide) (by decide) q15 q14 (by omega) (fun G16 J16 q16 f16 => ?_)
    refine And.intro (fun hb => absurd hb (by decide)) (fun _ => ?_)
    have q17 := ((f16 1 (by decide)).trans ((f14 1 (by decide) (by decide)).trans hB0))
    have q18 := ((f16 3 (by decide)).trans q14)
    refine x_times (d := d) (r := 1) (a := 1) (b := 3) hM hA.1 (by decide) (by decide) rfl (by decide) (by decide) (by decide) q17 q18 (by omega) (fun G19 J19 q19 f19 => ?_)
    refine And.intro (fun hb => absurd hb (by decide)) (fun _ => ?_)
    have q20 := ((f19 2 (by decide)).trans ((f16 2 (by decide)).trans ((f14 2 (by decide) (by decide)).trans hC0)))
    have q21 := ((f19 3 (by decide)).trans q18)
    refine x_times (d := d) (r := 2) (a := 2) (b := 3) hM hA.1 (by decide) (by decide) rfl (by decide) (by decide) (by decide) q20 q21 (by omega) (fun G22 J22 q22 f22 => ?_)
    refine And.intro (fun _ => ?_) (fun hb => absurd (by decide) hb)
    refine And.intro hM.c ?_
    refine Rf.put ?_
    refine Rf.go 250 [31] ?_
    have hA23 := hA.put (x := Int32.ofInt 2) (q := 16) (by decide) (by decide)
    have q24 := ((f22 0 (by decide)).trans ((f19 0 (by decide)).trans q16))
    have q25 := ((f22 1 (by decide)).trans q19)
    exact ⟨rfl, hp G22 J22 (by rw [ldE_f z1]; exact q24) (by rw [ldE_f z1]; exact q25) (by rw [ldE_f z1]; exact q22) (fun s h1 h2 h3 h4 h5 => ((((f22 s (by omega)).trans (f19 s (by omega))).trans (f16 s (by omega))).trans (f14 s (by omega) (by omega))))⟩
set_option maxHeartbeats 4000000 in
theorem M126 [NeZero p] { d' : Nat} {z0 z1 : Int32} {A B X Y : TR p D h} {post : Option Value → Me → Prop} (hM : MoM M m) (hA : MoA I m p h D) (hz0 : z0 = nI 7) (hz1 : z1 = nI 8) (hA0 : G 0 = vE p D h A) (hB0 : G 1 = vE p D h B) (hX0 : G 7 = vE p D h X) (hY0 : G 8 = vE p D h Y) (hd : d + 4 ≤ d') (hp : ∀ G1 J1, G1 0 = vE p D h ((TI p D h).mul A (iv p D h (ldE p D h A B))) → G1 1 = vE p D h ((TI p D h).mul B (iv p D h (ldE p D h A B))) → G1 2 = vE p D h ((TI p D h).mul ((TI p D h).neg ((TI p D h).add ((TI p D h).mul A X) ((TI p D h).mul B Y))) (iv p D h (ldE p D h A B))) → (∀ s, s ≠ 0 → s ≠ 1 → s ≠ 2 → s ≠ 3 → s ≠ 4 → s ≠ 5 → (s < 32 ∨ 35 ≤ s) → G1 s = G s) → post none (St M (rg (u2 I m 16 (Int32.ofInt 2)) m G1) J1)) : Ok K d' 126 [.ref m, .int z0, .int z1] (St M (rg I m G) J) post := by
  refine Ok.up (d := d + 4) (post := post) ?_ hd (fun _ _ h => h)
  subst hz0 hz1
  refine Ok.go (e := me_126) rfl rfl (Nat.le_of_ble_eq_true rfl) hM.c ?_
  refine Rf.go 250 [] ?_
  refine x_times (d := d) (r := 4) (a := 0) (b := 7) hM hA.1 rfl rfl rfl (by decide) (by decide) (by decide) hA0 hX0 (by omega) (fun G1 J1 q1 f1 => ?_)
  have q2 := ((f1 1 (by decide)).trans hB0)
  have q3 := ((f1 8 (by decide)).trans hY0)
  refine x_times (d := d) (r := 5) (a := 1) (b := 8) hM hA.1 rfl rfl rfl (by decide) (by decide) (by decide) q2 q3 (by omega) (fun G4 J4 q4 f4 => ?_)
  have q5 := ((f4 4 (by decide)).trans q1)
  refine x_add (d := d) (r := 4) (a := 4) (b := 5) hM rfl rfl rfl (by decide) (by decide) (by decide) hA.1.1 hA.1.2.2.2.1.2 q5 q4 (by omega) (fun G6 J6 q6 f6 => ?_)
  refine x_turn (d := d) (r := 2) (a := 4) hM rfl rfl (by decide) (by decide) hA.1.1 hA.1.2.2.2.1.2 q6 (by omega) (fun G7 J7 q7 f7 => ?_)
  have q8 := ((f7 0 (by decide)).trans ((f6 0 (by decide)).trans ((f4 0 (by decide)).trans ((f1 0 (by decide)).trans hA0))))
  have q9 := ((f7 1 (by decide)).trans ((f6 1 (by decide)).trans ((f4 1 (by decide)).trans q2)))
  refine M125 (d := d) hM hA q8 q9 q7 (by omega) (fun G10 J10 q10a q10b q10c f10 => ?_)
  have hA11 := hA.put (x := Int32.ofInt 2) (q := 16) (by decide) (by decide)
  exact ⟨rfl, hp G10 J10 q10a q10b q10c (fun s h1 h2 h3 h4 h5 h6 h7 => (((((f10 s (by omega) (by omega) (by omega) (by omega) (by omega)).trans (f7 s (by omega))).trans (f6 s (by omega))).trans (f4 s (by omega))).trans (f1 s (by omega))))⟩
theorem zadd1 {R : Type} [Lean.Grind.CommRing R] (a b : R) : 0 + a + b = a + b := by grind
set_option maxHeartbeats 4000000 in
theorem M127 [NeZero p] {s t d' : Nat} {z0 z1 z2 : Int32} {S0 S1 T0 T1 : TR p D h} {post : Option Value → Me → Prop} (hM : MoM M m) (hA : MoA I m p h D) (hz0 : z0 = nI 2) (hz1 : z1 = nI s) (hz2 : z2 = nI t) (hs : s < 60) (ht : t < 60) (hS0 : ∀ j, j < 8 → I (m + 7) (24 * s + 8 * 0 + j) = vE p D h S0 j) (hS1 : ∀ j, j < 8 → I (m + 7) (24 * s + 8 * 1 + j) = vE p D h S1 j) (hT0 : ∀ j, j < 8 → I (m + 7) (24 * t + 8 * 0 + j) = vE p D h T0 j) (hT1 : ∀ j, j < 8 → I (m + 7) (24 * t + 8 * 1 + j) = vE p D h T1 j) (hd : d + 2 ≤ d') (hp : ∀ G1 J1, G1 2 = vE p D h ((TI p D h).add ((TI p D h).mul ((TI p D h).sub S0 T0) ((TI p D h).sub S0 T0)) ((TI p D h).mul ((TI p D h).sub S1 T1) ((TI p D h).sub S1 T1))) → (∀ s, s ≠ 2 → s ≠ 3 → s ≠ 4 → G1 s = G s) → post none (St M (rg I m G1) J1)) : Ok K d' 127 [.ref m, .int z0, .int z1, .int z2] (St M (rg I m G) J) post := by
  refine Ok.up (d := d + 2) (post := post) ?_ hd (fun _ _ h => h)
  subst hz0 hz1 hz2
  refine Ok.go (e := me_127) rfl rfl (Nat.le_of_ble_eq_true rfl) hM.c ?_
  refine Rf.go 250 [] ?_
  refine x_set0 (d := d) (p := p) (D := D) (h := h) (r := 2) hM rfl (by decide) (by have := hA.1.2.2.2.1.1; omega) (by omega) (fun G1 J1 q1 f1 => ?_)
  refine And.intro (fun hb => absurd hb (by decide)) (fun _ => ?_)
  refine x_loadE (d := d) (r := 3) (a := s) (k := 0) (v := vE p D h S0) hM rfl rfl rfl (by decide) (by omega) (by omega) hS0 (by omega) (fun G2 J2 q2 f2 => ?_)
  refine x_loadE (d := d) (r := 4) (a := t) (k := 0) (v := vE p D h T0) hM rfl rfl rfl (by decide) (by omega) (by omega) hT0 (by omega) (fun G3 J3 q3 f3 => ?_)
  have q4 := ((f3 3 (by decide)).trans q2)
  refine x_less (d := d) (r := 3) (a := 3) (b := 4) hM rfl rfl rfl (by decide) (by decide) (by decide) hA.1.1 hA.1.2.2.2.1.2 q4 q3 (by omega) (fun G5 J5 q5 f5 => ?_)
  refine x_times (d := d) (r := 3) (a := 3) (b := 3) hM hA.1 rfl rfl rfl (by decide) (by decide) (by decide) q5 q5 (by omega) (fun G6 J6 q6 f6 => ?_)
  have q7 := ((f6 2 (by decide)).trans ((f5 2 (by decide)).trans ((f3 2 (by decide)).trans ((f2 2 (by decide)).trans q1))))
  refine x_add (d := d) (r := 2) (a := 2) (b := 3) hM rfl rfl rfl (by decide) (by decide) (by decide) hA.1.1 hA.1.2.2.2.1.2 q7 q6 (by omega) (fun G8 J8 q8 f8 => ?_)
  refine And.intro (fun hb => absurd hb (by decide)) (fun _ => ?_)
  refine x_loadE (d := d) (r := 3) (a := s) (k := 1) (v := vE p D h S1) hM rfl rfl (by decide) (by decide) (by omega) (by omega) hS1 (by omega) (fun G9 J9 q9 f9 => ?_)
  refine x_loadE (d := d) (r := 4) (a := t) (k := 1) (v := vE p D h T1) hM rfl rfl (by decide) (by decide) (by omega) (by omega) hT1 (by omega) (fun G10 J10 q10 f10 => ?_)
  have q11 := ((f10 3 (by decide)).trans q9)
  refine x_less (d := d) (r := 3) (a := 3) (b := 4) hM rfl rfl rfl (by decide) (by decide) (by decide) hA.1.1 hA.1.2.2.2.1.2 q11 q10 (by omega) (fun G12 J12 q12 f12 => ?_)
  refine x_times (d := d) (r := 3) (a := 3) (b := 3) hM hA.1 rfl rfl rfl (by decide) (by decide) (by decide) q12 q12 (by omega) (fun G13 J13 q13 f13 => ?_)
  have q14 := ((f13 2 (by decide)).trans ((f12 2 (by decide)).trans ((f10 2 (by decide)).trans ((f9 2 (by decide)).trans q8))))
  refine x_add (d := d) (r := 2) (a := 2) (b := 3) hM rfl rfl rfl (by decide) (by decide) (by decide) hA.1.1 hA.1.2.2.2.1.2 q14 q13 (by omega) (fun G15 J15 q15 f15 => ?_)
  refine And.intro (fun _ => ?_) (fun hb => absurd (by decide) hb)
  rw [show ((TI p D h).add ((TI p D h).add ((TI p D h).ofNat 0).ofNat ((TI p D h).mul ((TI p D h).sub S0 T0) ((TI p D h).sub S0 T0))) ((TI p D h).mul ((TI p D h).sub S1 T1) ((TI p D h).sub S1 T1))) = ((TI p D h).add ((TI p D h).mul ((TI p D h).sub S0 T0) ((TI p D h).sub S0 T0)) ((TI p D h).mul ((TI p D h).sub S1 T1) ((TI p D h).sub S1 T1))) from @zadd1 (TR p D h) (TI p D h) _ _] at q15
  exact ⟨rfl, hp G15 J15 q15 (fun s h1 h2 h3 => (((((((((((f15 s (by omega)).trans (f13 s (by omega))).trans (f12 s (by omega))).trans (f10 s (by omega))).trans (f9 s (by omega))).trans (f8 s (by omega))).trans (f6 s (by omega))).trans (f5 s (by omega))).trans (f3 s (by omega))).trans (f2 s (by omega))).trans (f1 s (by omega))))⟩
set_option maxHeartbeats 4000000 in
theorem M135_46 [NeZero p] { d' : Nat} {z0 z1 z2 z3 z4 : Int32} {A B C E : TR p D h} {post : Option Value → Me → Prop} (hM : MoM M m) (hA : MoA I m p h D) (hz0 : z0 = nI 46) (hz1 : z1 = nI 6) (hz2 : z2 = nI 10) (hz3 : z3 = nI 9) (hz4 : z4 = nI 7) (hA0 : G 6 = vE p D h A) (hB0 : G 10 = vE p D h B) (hC0 : G 9 = vE p D h C) (hE0 : G 7 = vE p D h E) (hd : d + 2 ≤ d') (hp : ∀ G1 J1, G1 46 = vE p D h ((TI p D h).sub ((TI p D h).mul A B) ((TI p D h).mul C E)) → (∀ s, s ≠ 46 → s ≠ 3 → s ≠ 4 → G1 s = G s) → post none (St M (rg I m G1) J1)) : Ok K d' 135 [.ref m, .int z0, .int z1, .int z2, .int z3, .int z4] (St M (rg I m G) J) post := by
  refine Ok.up (d := d + 2) (post := post) ?_ hd (fun _ _ h => h)
  subst hz0 hz1 hz2 hz3 hz4
  refine Ok.go (e := me_135) rfl rfl (Nat.le_of_ble_eq_true rfl) hM.c ?_
  refine Rf.go 250 [] ?_
  refine x_times (d := d) (r := 3) (a := 6) (b := 10) hM hA.1 rfl rfl rfl (by decide) (by decide) (by decide) hA0 hB0 (by omega) (fun G1 J1 q1 f1 => ?_)
  have q2 := ((f1 9 (by decide)).trans hC0)
  have q3 := ((f1 7 (by decide)).trans hE0)
  refine x_times (d := d) (r := 4) (a := 9) (b := 7) hM hA.1 rfl rfl rfl (by decide) (by decide) (by decide) q2 q3 (by omega) (fun G4 J4 q4 f4 => ?_)
  have q5 := ((f4 3 (by decide)).trans q1)
  refine x_less (d := d) (r := 46) (a := 3) (b := 4) hM rfl rfl rfl (by decide) (by decide) (by decide) hA.1.1 hA.1.2.2.2.1.2 q5 q4 (by omega) (fun G6 J6 q6 f6 => ?_)
  exact ⟨rfl, hp G6 J6 q6 (fun s h1 h2 h3 => (((f6 s (by omega)).trans (f4 s (by omega))).trans (f1 s (by omega))))⟩
set_option maxHeartbeats 4000000 in
theorem M135_47 [NeZero p] { d' : Nat} {z0 z1 z2 z3 z4 : Int32} {A B C E : TR p D h} {post : Option Value → Me → Prop} (hM : MoM M m) (hA : MoA I m p h D) (hz0 : z0 = nI 47) (hz1 : z1 = nI 7) (hz2 : z2 = nI 11) (hz3 : z3 = nI 10) (hz4 : z4 = nI 8) (hA0 : G 7 = vE p D h A) (hB0 : G 11 = vE p D h B) (hC0 : G 10 = vE p D h C) (hE0 : G 8 = vE p D h E) (hd : d + 2 ≤ d') (hp : ∀ G1 J1, G1 47 = vE p D h ((TI p D h).sub ((TI p D h).mul A B) ((TI p D h).mul C E)) → (∀ s, s ≠ 47 → s ≠ 3 → s ≠ 4 → G1 s = G s) → post none (St M (rg I m G1) J1)) : Ok K d' 135 [.ref m, .int z0, .int z1, .int z2, .int z3, .int z4] (St M (rg I m G) J) post := by
  refine Ok.up (d := d + 2) (post := post) ?_ hd (fun _ _ h => h)
  subst hz0 hz1 hz2 hz3 hz4
  refine Ok.go (e := me_135) rfl rfl (Nat.le_of_ble_eq_true rfl) hM.c ?_
  refine Rf.go 250 [] ?_
  refine x_times (d := d) (r := 3) (a := 7) (b := 11) hM hA.1 rfl rfl rfl (by decide) (by decide) (by decide) hA0 hB0 (by omega) (fun G1 J1 q1 f1 => ?_)
  have q2 := ((f1 10 (by decide)).trans hC0)
  have q3 := ((f1 8 (by decide)).trans hE0)
  refine x_times (d := d) (r := 4) (a := 10) (b := 8) hM hA.1 rfl rfl rfl (by decide) (by decide) (by decide) q2 q3 (by omega) (fun G4 J4 q4 f4 => ?_)
  have q5 := ((f4 3 (by decide)).trans q1)
  refine x_less (d := d) (r := 47) (a := 3) (b := 4) hM rfl rfl rfl (by decide) (by decide) (by decide) hA.1.1 hA.1.2.2.2.1.2 q5 q4 (by omega) (fun G6 J6 q6 f6 => ?_)
  exact ⟨rfl, hp G6 J6 q6 (fun s h1 h2 h3 => (((f6 s (by omega)).trans (f4 s (by omega))).trans (f1 s (by omega))))⟩
set_option maxHeartbeats 4000000 in
theorem M135_48 [NeZero p] { d' : Nat} {z0 z1 z2 z3 z4 : Int32} {A B C E : TR p D h} {post : Option Value → Me → Prop} (hM : MoM M m) (hA : MoA I m p h D) (hz0 : z0 = nI 48) (hz1 : z1 = nI 8) (hz2 : z2 = nI 9) (hz3 : z3 = nI 11) (hz4 : z4 = nI 6) (hA0 : G 8 = vE p D h A) (hB0 : G 9 = vE p D h B) (hC0 : G 11 = vE p D h C) (hE0 : G 6 = vE p D h E) (hd : d + 2 ≤ d') (hp : ∀ G1 J1, G1 48 = vE p D h ((TI p D h).sub ((TI p D h).mul A B) ((TI p D h).mul C E)) → (∀ s, s ≠ 48 → s ≠ 3 → s ≠ 4 → G1 s = G s) → post none (St M (rg I m G1) J1)) : Ok K d' 135 [.ref m, .int z0, .int z1, .int z2, .int z3, .int z4] (St M (rg I m G) J) post := by
  refine Ok.up (d := d + 2) (post := post) ?_ hd (fun _ _ h => h)
  subst hz0 hz1 hz2 hz3 hz4
  refine Ok.go (e := me_135) rfl rfl (Nat.le_of_ble_eq_true rfl) hM.c ?_
  refine Rf.go 250 [] ?_
  refine x_times (d := d) (r := 3) (a := 8) (b := 9) hM hA.1 rfl rfl rfl (by decide) (by decide) (by decide) hA0 hB0 (by omega) (fun G1 J1 q1 f1 => ?_)
  have q2 := ((f1 11 (by decide)).trans hC0)
  have q3 := ((f1 6 (by decide)).trans hE0)
  refine x_times (d := d) (r := 4) (a := 11) (b := 6) hM hA.1 rfl rfl rfl (by decide) (by decide) (by decide) q2 q3 (by omega) (fun G4 J4 q4 f4 => ?_)
  have q5 := ((f4 3 (by decide)).trans q1)
  refine x_less (d := d) (r := 48) (a := 3) (b := 4) hM rfl rfl rfl (by decide) (by decide) (by decide) hA.1.1 hA.1.2.2.2.1.2 q5 q4 (by omega) (fun G6 J6 q6 f6 => ?_)
  exact ⟨rfl, hp G6 J6 q6 (fun s h1 h2 h3 => (((f6 s (by omega)).trans (f4 s (by omega))).trans (f1 s (by omega))))⟩
end N1
