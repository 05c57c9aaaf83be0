/-! one, on, way: printed -/
section Q1
variable {K : Ka} {d o p h : Nat} {M : Me} {I : Nat → Nat → Int32} {J : Nat → Nat → Int64} {D : Nat → Nat → Nat}
set_option maxHeartbeats 4000000 in
theorem H10_1 [NeZero p] {s t d' : Nat} {z0 z1 z2 : Int32} {S0 T0 : TR p D h} {post : Option Value → Me → Prop} (hK : Ksp K) (hM : HsM M o) (hA : TwA I (o + 1) p h D) (hz0 : z0 = nI s) (hz1 : z1 = nI t) (hz2 : z2 = nI 1) (hs : s ≤ 60) (ht : t ≤ 60) (hS0 : Re I p D h (o + 26 + 3 * s + 0) S0) (hT0 : Re I p D h (o + 26 + 3 * t + 0) T0) (hd : d + 3 ≤ d') (c1 : S0 = T0 → post (some (.int (Int32.ofInt 1))) (St M I J)) (c0 : ¬ S0 = T0 → post (some (.int (Int32.ofInt 0))) (St M I J)) : Ok K d' 10 [.ref o, .int z0, .int z1, .int z2] (St M I J) post := by
  refine Ok.up (d := d + 3) (post := post) ?_ hd (fun _ _ h => h)
  subst hz0 hz1 hz2
  refine Ok.go (e := me_10) rfl rfl (Nat.le_of_ble_eq_true rfl) hM.c ?_
  refine Rf.go 300 [] ?_
  refine And.intro (fun hb => absurd hb (by decide)) (fun _ => ?_)
  refine And.intro hM.c ⟨o + 1, hM.r0, ?_⟩
  refine (h_row (K := K) (d := d) (t := s) (i := 0) hM (by omega) (by omega) rfl rfl).up (by omega) ?_
  rintro r M1 ⟨rfl, rfl⟩
  refine (h_row (K := K) (d := d) (t := t) (i := 0) hM (by omega) (by omega) rfl rfl).up (by omega) ?_
  rintro r M1 ⟨rfl, rfl⟩
  refine (t_areSameE (d := d) hM.tc (hM.rc (by omega)) (hM.rc (by omega)) hA.1.2.2.1 hA.1.2.2.2.1.2 hS0 hT0).up (by omega) ?_
  rintro r M1 ⟨rfl, (⟨z1, rfl⟩ | ⟨z1, rfl⟩)⟩
  · refine And.intro (fun _ => ?_) (fun hb => absurd (by decide) hb)
    refine And.intro (fun _ => ?_) (fun hb => absurd (by decide) hb)
    exact ⟨rfl, c1 z1⟩
  · refine And.intro (fun hb => absurd hb (by decide)) (fun _ => ?_)
    exact ⟨rfl, c0 z1⟩
end Q1
section Q2
variable {K : Ka} {d m p h : Nat} {M : Me} {I : Nat → Nat → Int32} {J : Nat → Nat → Int64} {D : Nat → Nat → Nat} {G : Nat → Nat → Int32}
set_option maxHeartbeats 4000000 in
theorem M135w [NeZero p] { d' : Nat} {z0 z1 z2 z3 z4 : Int32} {A B C E : TR p D h} {post : Option Value → Me → Prop} (hM : MoM M m) (hA : MoA I m p h D) (hz0 : z0 = nI 46) (hz1 : z1 = nI 6) (hz2 : z2 = nI 9) (hz3 : z3 = nI 8) (hz4 : z4 = nI 7) (hA0 : G 6 = vE p D h A) (hB0 : G 9 = vE p D h B) (hC0 : G 8 = vE p D h C) (hE0 : G 7 = vE p D h E) (hd : d + 2 ≤ d') (hp : ∀ G1 J1, G1 46 = vE p D h ((TI p D h).sub ((TI p D h).mul A B) ((TI p D h).mul C E)) → (∀ s, s ≠ 46 → s ≠ 3 → s ≠ 4 → G1 s = G s) → post none (St M (rg I m G1) J1)) : Ok K d' 135 [.ref m, .int z0, .int z1, .int z2, .int z3, .int z4] (St M (rg I m G) J) post := by
  refine Ok.up (d := d + 2) (post := post) ?_ hd (fun _ _ h => h)
  subst hz0 hz1 hz2 hz3 hz4
  refine Ok.go (e := me_135) rfl rfl (Nat.le_of_ble_eq_true rfl) hM.c ?_
  refine Rf.go 250 [] ?_
  refine x_times (d := d) (r := 3) (a := 6) (b := 9) hM hA.1 rfl rfl rfl (by decide) (by decide) (by decide) hA0 hB0 (by omega) (fun G1 J1 q1 f1 => ?_)
  have q2 := ((f1 8 (by decide)).trans hC0)
  have q3 := ((f1 7 (by decide)).trans hE0)
  refine x_times (d := d) (r := 4) (a := 8) (b := 7) hM hA.1 rfl rfl rfl (by decide) (by decide) (by decide) q2 q3 (by omega) (fun G4 J4 q4 f4 => ?_)
  have q5 := ((f4 3 (by decide)).trans q1)
  refine x_less (d := d) (r := 46) (a := 3) (b := 4) hM rfl rfl rfl (by decide) (by decide) (by decide) hA.1.1 hA.1.2.2.2.1.2 q5 q4 (by omega) (fun G6 J6 q6 f6 => ?_)
  exact ⟨rfl, hp G6 J6 q6 (fun s h1 h2 h3 => (((f6 s (by omega)).trans (f4 s (by omega))).trans (f1 s (by omega))))⟩
theorem on1 {R : Type} [Lean.Grind.CommRing R] (a b c : R) : c + a + b = a + b + c := by grind
theorem on2 {R : Type} [Lean.Grind.CommRing R] (a b c e s : R) : c + a * e + b * s = e * a + s * b + c := by grind
theorem on3 {R : Type} [Lean.Grind.CommRing R] (a b s : R) : a - s + b = 0 ↔ a + b = s := ⟨fun q => by grind, fun q => by grind⟩
set_option maxHeartbeats 4000000 in
theorem M151_2 [NeZero p] {s t n d' : Nat} {kd : Nat → Nat} {z0 z1 : Int32} {S0 S1 T0 T1 T2 : TR p D h} {post : Option Value → Me → Prop} (hM : MoM M m) (hA : MoA I m p h D) (hz0 : z0 = nI s) (hz1 : z1 = nI t) (hS0 : ∀ j, j < 8 → I (m + 7) (24 * s + 8 * 0 + j) = vE p D h S0 j) (hS1 : ∀ j, j < 8 → I (m + 7) (24 * s + 8 * 1 + j) = vE p D h S1 j) (hT0 : ∀ j, j < 8 → I (m + 7) (24 * t + 8 * 0 + j) = vE p D h T0 j) (hT1 : ∀ j, j < 8 → I (m + 7) (24 * t + 8 * 1 + j) = vE p D h T1 j) (hT2 : ∀ j, j < 8 → I (m + 7) (24 * t + 8 * 2 + j) = vE p D h T2 j) (hTg : ∀ G1, MoT (rg I m G1) m n kd) (hn6 : n ≤ 60) (hs : s < n) (ht : t < n) (so_s : srt (kd s) = 1) (so_t : srt (kd t) = 2) (sv_t : I (m + 5) t = nI 2) (hd : d + 4 ≤ d') (c1 : ((TI p D h).add ((TI p D h).add ((TI p D h).mul T0 S0) ((TI p D h).mul T1 S1)) T2) = ((TI p D h).ofNat 0).ofNat → ∀ G1 J1, post (some (.int (Int32.ofInt 1))) (St M (rg I m G1) J1)) (c0 : ¬ ((TI p D h).add ((TI p D h).add ((TI p D h).mul T0 S0) ((TI p D h).mul T1 S1)) T2) = ((TI p D h).ofNat 0).ofNat → ∀ G1 J1, post (some (.int (Int32.ofInt 0))) (St M (rg I m G1) J1)) : Ok K d' 151 [.ref m, .int z0, .int z1] (St M (rg I m G) J) post := by
  refine Ok.up (d := d + 4) (post := post) ?_ hd (fun _ _ h => h)
  subst hz0 hz1
  refine Ok.go (e := me_151) rfl rfl (Nat.le_of_ble_eq_true rfl) hM.c ?_
  refine Rf.go 300 [] ?_
  refine m_isOf (d := d) (s := 1) hM (hTg G) rfl (by decide) (by omega) (fun _ => ?_) (fun w => absurd ⟨s, hs, rfl, so_s⟩ w)
  refine And.intro (fun hb => absurd hb (by decide)) (fun _ => ?_)
  refine m_isRound (d := d) hM (hTg G) (by omega) (fun _ => ?_) (fun w => absurd (Or.inl ⟨t, ht, rfl, so_t⟩) w)
  refine And.intro (fun _ => ?_) (fun hb => absurd (by decide) hb)
  refine x_loadE (d := d) (r := 3) (a := s) (k := 0) (v := vE p D h S0) hM rfl rfl rfl (by decide) (by omega) (by omega) hS0 (by omega) (fun G1 J1 q1 f1 => ?_)
  refine x_loadE (d := d) (r := 4) (a := s) (k := 1) (v := vE p D h S1) hM rfl rfl rfl (by decide) (by omega) (by omega) hS1 (by omega) (fun G2 J2 q2 f2 => ?_)
  refine And.intro (fun hb => absurd hb (by decide)) (fun _ => ?_)
  refine x_loadE (d := d) (r := 5) (a := t) (k := 0) (v := vE p D h T0) hM (by decide) rfl rfl (by decide) (by omega) (by omega) hT0 (by omega) (fun G3 J3 q3 f3 => ?_)
  refine And.intro (fun hb => absurd hb (by decide)) (fun _ => ?_)
  refine x_loadE (d := d) (r := 6) (a := t) (k := 1) (v := vE p D h T1) hM (by decide) rfl (by decide) (by decide) (by omega) (by omega) hT1 (by omega) (fun G4 J4 q4 f4 => ?_)
  refine And.intro (fun hb => absurd hb (by decide)) (fun _ => ?_)
  refine x_loadE (d := d) (r := 7) (a := t) (k := 2) (v := vE p D h T2) hM (by decide) rfl (by decide) (by decide) (by omega) (by omega) hT2 (by omega) (fun G5 J5 q5 f5 => ?_)
  refine And.intro (fun _ => ?_) (fun hb => absurd (by decide) hb)
  refine And.intro hM.c ⟨m + 5, hM.r8, ?_⟩
  refine Or.inr (And.intro ⟨(hM.a60 (a := m + 5) (by omega)).1, inb60 (a := 0) hM (by omega)⟩ ?_)
  have w6 : ¬ cmpI .ne (rg I m G5 (m + 5) (nI t).toNatClampNeg) (Int32.ofInt 2) = true := by rw [show rg I m G5 (m + 5) (nI t).toNatClampNeg = nI 2 from (srt_at (by omega)).trans (sv_t)]; decide
  refine And.intro (fun hb => absurd hb w6) (fun _ => ?_)
  have q7 := ((f5 3 (by decide)).trans ((f4 3 (by decide)).trans ((f3 3 (by decide)).trans ((f2 3 (by decide)).trans q1))))
  have q8 := ((f5 5 (by decide)).trans ((f4 5 (by decide)).trans q3))
  refine x_times (d := d) (r := 3) (a := 3) (b := 5) hM hA.1 rfl rfl rfl (by decide) (by decide) (by decide) q7 q8 (by omega) (fun G9 J9 q9 f9 => ?_)
  have q10 := ((f9 4 (by decide)).trans ((f5 4 (by decide)).trans ((f4 4 (by decide)).trans ((f3 4 (by decide)).trans q2))))
  have q11 := ((f9 6 (by decide)).trans ((f5 6 (by decide)).trans q4))
  refine x_times (d := d) (r := 4) (a := 4) (b := 6) hM hA.1 rfl rfl rfl (by decide) (by decide) (by decide) q10 q11 (by omega) (fun G12 J12 q12 f12 => ?_)
  have q13 := ((f12 7 (by decide)).trans ((f9 7 (by decide)).trans q5))
  have q14 := ((f12 3 (by decide)).trans q9)
  refine x_add (d := d) (r := 7) (a := 7) (b := 3) hM rfl rfl rfl (by decide) (by decide) (by decide) hA.1.1 hA.1.2.2.2.1.2 q13 q14 (by omega) (fun G15 J15 q15 f15 => ?_)
  have q16 := ((f15 4 (by decide)).trans q12)
  refine x_add (d := d) (r := 7) (a := 7) (b := 4) hM rfl rfl rfl (by decide) (by decide) (by decide) hA.1.1 hA.1.2.2.2.1.2 q15 q16 (by omega) (fun G17 J17 q17 f17 => ?_)
  rw [show ((TI p D h).add ((TI p D h).add T2 ((TI p D h).mul S0 T0)) ((TI p D h).mul S1 T1)) = ((TI p D h).add ((TI p D h).add ((TI p D h).mul T0 S0) ((TI p D h).mul T1 S1)) T2) from @on2 (TR p D h) (TI p D h) S0 S1 T2 T0 T1] at q17
  refine m_isZero (d := d) (a := 7) hM rfl (by decide) hA.1.2.2.1 hA.1.2.2.2.1.2 q17 (by omega) (fun z18 => ?_) (fun z18 => ?_)
  · refine And.intro (fun hb => absurd hb (by decide)) (fun _ => ?_)
    exact ⟨rfl, c1 z18 G17 J17⟩
  · refine And.intro (fun _ => ?_) (fun hb => absurd (by decide) hb)
    exact ⟨rfl, c0 z18 G17 J17⟩
set_option maxHeartbeats 4000000 in
theorem M151_3 [NeZero p] {s t n d' : Nat} {kd : Nat → Nat} {z0 z1 : Int32} {S0 S1 T0 T1 T2 : TR p D h} {post : Option Value → Me → Prop} (hM : MoM M m) (hA : MoA I m p h D) (hz0 : z0 = nI s) (hz1 : z1 = nI t) (hS0 : ∀ j, j < 8 → I (m + 7) (24 * s + 8 * 0 + j) = vE p D h S0 j) (hS1 : ∀ j, j < 8 → I (m + 7) (24 * s + 8 * 1 + j) = vE p D h S1 j) (hT0 : ∀ j, j < 8 → I (m + 7) (24 * t + 8 * 0 + j) = vE p D h T0 j) (hT1 : ∀ j, j < 8 → I (m + 7) (24 * t + 8 * 1 + j) = vE p D h T1 j) (hT2 : ∀ j, j < 8 → I (m + 7) (24 * t + 8 * 2 + j) = vE p D h T2 j) (hTg : ∀ G1, MoT (rg I m G1) m n kd) (hn6 : n ≤ 60) (hs : s < n) (ht : t < n) (so_s : srt (kd s) = 1) (so_t : srt (kd t) = 3) (sv_t : I (m + 5) t = nI 3) (hd : d + 4 ≤ d') (c1 : ((TI p D h).add ((TI p D h).mul ((TI p D h).sub S0 T0) ((TI p D h).sub S0 T0)) ((TI p D h).mul ((TI p D h).sub S1 T1) ((TI p D h).sub S1 T1))) = T2 → ∀ G1 J1, post (some (.int (Int32.ofInt 1))) (St M (rg I m G1) J1)) (c0 : ¬ ((TI p D h).add ((TI p D h).mul ((TI p D h).sub S0 T0) ((TI p D h).sub S0 T0)) ((TI p D h).mul ((TI p D h).sub S1 T1) ((TI p D h).sub S1 T1))) = T2 → ∀ G1 J1, post (some (.int (Int32.ofInt 0))) (St M (rg I m G1) J1)) : Ok K d' 151 [.ref m, .int z0, .int z1] (St M (rg I m G) J) post := by
  refine Ok.up (d := d + 4) (post := post) ?_ hd (fun _ _ h => h)
  subst hz0 hz1
  refine Ok.go (e := me_151) rfl rfl (Nat.le_of_ble_eq_true rfl) hM.c ?_
  refine Rf.go 300 [] ?_
  refine m_isOf (d := d) (s := 1) hM (hTg G) rfl (by decide) (by omega) (fun _ => ?_) (fun w => absurd ⟨s, hs, rfl, so_s⟩ w)
  refine And.intro (fun hb => absurd hb (by decide)) (fun _ => ?_)
  refine m_isRound (d := d) hM (hTg G) (by omega) (fun _ => ?_) (fun w => absurd (Or.inr ⟨t, ht, rfl, so_t⟩) w)
  refine And.intro (fun _ => ?_) (fun hb => absurd (by decide) hb)
  refine x_loadE (d := d) (r := 3) (a := s) (k := 0) (v := vE p D h S0) hM rfl rfl rfl (by decide) (by omega) (by omega) hS0 (by omega) (fun G1 J1 q1 f1 => ?_)
  refine x_loadE (d := d) (r := 4) (a := s) (k := 1) (v := vE p D h S1) hM rfl rfl rfl (by decide) (by omega) (by omega) hS1 (by omega) (fun G2 J2 q2 f2 => ?_)
  refine And.intro (fun hb => absurd hb (by decide)) (fun _ => ?_)
  refine x_loadE (d := d) (r := 5) (a := t) (k := 0) (v := vE p D h T0) hM (by decide) rfl rfl (by decide) (by omega) (by omega) hT0 (by omega) (fun G3 J3 q3 f3 => ?_)
  refine And.intro (fun hb => absurd hb (by decide)) (fun _ => ?_)
  refine x_loadE (d := d) (r := 6) (a := t) (k := 1) (v := vE p D h T1) hM (by decide) rfl (by decide) (by decide) (by omega) (by omega) hT1 (by omega) (fun G4 J4 q4 f4 => ?_)
  refine And.intro (fun hb => absurd hb (by decide)) (fun _ => ?_)
  refine x_loadE (d := d) (r := 7) (a := t) (k := 2) (v := vE p D h T2) hM (by decide) rfl (by decide) (by decide) (by omega) (by omega) hT2 (by omega) (fun G5 J5 q5 f5 => ?_)
  refine And.intro (fun _ => ?_) (fun hb => absurd (by decide) hb)
  refine And.intro hM.c ⟨m + 5, hM.r8, ?_⟩
  refine Or.inr (And.intro ⟨(hM.a60 (a := m + 5) (by omega)).1, inb60 (a := 0) hM (by omega)⟩ ?_)
  have w6 : cmpI .ne (rg I m G5 (m + 5) (nI t).toNatClampNeg) (Int32.ofInt 2) = true := by rw [show rg I m G5 (m + 5) (nI t).toNatClampNeg = nI 3 from (srt_at (by omega)).trans (sv_t)]; decide
  refine And.intro (fun _ => ?_) (fun hb => absurd w6 hb)
  have q7 := ((f5 3 (by decide)).trans ((f4 3 (by decide)).trans ((f3 3 (by decide)).trans ((f2 3 (by decide)).trans q1))))
  have q8 := ((f5 5 (by decide)).trans ((f4 5 (by decide)).trans q3))
  refine x_less (d := d) (r := 3) (a := 3) (b := 5) hM rfl rfl rfl (by decide) (by decide) (by decide) hA.1.1 hA.1.2.2.2.1.2 q7 q8 (by omega) (fun G9 J9 q9 f9 => ?_)
  have q10 := ((f9 4 (by decide)).trans ((f5 4 (by decide)).trans ((f4 4 (by decide)).trans ((f3 4 (by decide)).trans q2))))
  have q11 := ((f9 6 (by decide)).trans ((f5 6 (by decide)).trans q4))
  refine x_less (d := d) (r := 4) (a := 4) (b := 6) hM rfl rfl rfl (by decide) (by decide) (by decide) hA.1.1 hA.1.2.2.2.1.2 q10 q11 (by omega) (fun G12 J12 q12 f12 => ?_)
  have q13 := ((f12 3 (by decide)).trans q9)
  refine x_times (d := d) (r := 3) (a := 3) (b := 3) hM hA.1 rfl rfl rfl (by decide) (by decide) (by decide) q13 q13 (by omega) (fun G14 J14 q14 f14 => ?_)
  have q15 := ((f14 4 (by decide)).trans q12)
  refine x_times (d := d) (r := 4) (a := 4) (b := 4) hM hA.1 rfl rfl rfl (by decide) (by decide) (by decide) q15 q15 (by omega) (fun G16 J16 q16 f16 => ?_)
  have q17 := ((f16 3 (by decide)).trans q14)
  have q18 := ((f16 7 (by decide)).trans ((f14 7 (by decide)).trans ((f12 7 (by decide)).trans ((f9 7 (by decide)).trans q5))))
  refine x_less (d := d) (r := 7) (a := 3) (b := 7) hM rfl rfl rfl (by decide) (by decide) (by decide) hA.1.1 hA.1.2.2.2.1.2 q17 q18 (by omega) (fun G19 J19 q19 f19 => ?_)
  have q20 := ((f19 4 (by decide)).trans q16)
  refine x_add (d := d) (r := 7) (a := 7) (b := 4) hM rfl rfl rfl (by decide) (by decide) (by decide) hA.1.1 hA.1.2.2.2.1.2 q19 q20 (by omega) (fun G21 J21 q21 f21 => ?_)
  refine m_isZero (d := d) (a := 7) hM rfl (by decide) hA.1.2.2.1 hA.1.2.2.2.1.2 q21 (by omega) (fun z22 => ?_) (fun z22 => ?_)
  · refine And.intro (fun hb => absurd hb (by decide)) (fun _ => ?_)
    exact ⟨rfl, c1 ((@on3 (TR p D h) (TI p D h) _ _ _).mp z22) G21 J21⟩
  · refine And.intro (fun _ => ?_) (fun hb => absurd (by decide) hb)
    exact ⟨rfl, c0 (fun w => z22 ((@on3 (TR p D h) (TI p D h) _ _ _).mpr w)) G21 J21⟩
set_option maxHeartbeats 4000000 in
theorem M152 [NeZero p] {s t n d' : Nat} {kd : Nat → Nat} {z0 z1 : Int32} {S0 S1 T0 T1 : TR p D h} {post : Option Value → Me → Prop} (hM : MoM M m) (hA : MoA I m p h D) (hz0 : z0 = nI s) (hz1 : z1 = nI t) (hS0 : ∀ j, j < 8 → I (m + 7) (24 * s + 8 * 0 + j) = vE p D h S0 j) (hS1 : ∀ j, j < 8 → I (m + 7) (24 * s + 8 * 1 + j) = vE p D h S1 j) (hT0 : ∀ j, j < 8 → I (m + 7) (24 * t + 8 * 0 + j) = vE p D h T0 j) (hT1 : ∀ j, j < 8 → I (m + 7) (24 * t + 8 * 1 + j) = vE p D h T1 j) (hTg : ∀ G1, MoT (rg I m G1) m n kd) (hn6 : n ≤ 60) (hs : s < n) (ht : t < n) (so_s : srt (kd s) = 2) (so_t : srt (kd t) = 2) (sv_t : I (m + 5) t = nI 2) (hd : d + 4 ≤ d') (c2 : ((TI p D h).add ((TI p D h).mul S0 T0) ((TI p D h).mul S1 T1)) = ((TI p D h).ofNat 0).ofNat → ∀ G1 J1, post (some (.int (Int32.ofInt 2))) (St M (rg I m G1) J1)) (c1 : ¬ ((TI p D h).add ((TI p D h).mul S0 T0) ((TI p D h).mul S1 T1)) = ((TI p D h).ofNat 0).ofNat → ((TI p D h).sub ((TI p D h).mul S0 T1) ((TI p D h).mul S1 T0)) = ((TI p D h).ofNat 0).ofNat → ∀ G1 J1, post (some (.int (Int32.ofInt 1))) (St M (rg I m G1) J1)) (c0 : ¬ ((TI p D h).add ((TI p D h).mul S0 T0) ((TI p D h).mul S1 T1)) = ((TI p D h).ofNat 0).ofNat → ¬ ((TI p D h).sub ((TI p D h).mul S0 T1) ((TI p D h).mul S1 T0)) = ((TI p D h).ofNat 0).ofNat → ∀ G1 J1, post (some (.int (Int32.ofInt 0))) (St M (rg I m G1) J1)) : Ok K d' 152 [.ref m, .int z0, .int z1] (St M (rg I m G) J) post := by
  refine Ok.up (d := d + 4) (post := post) ?_ hd (fun _ _ h => h)
  subst hz0 hz1
  refine Ok.go (e := me_152) rfl rfl (Nat.le_of_ble_eq_true rfl) hM.c ?_
  refine Rf.go 300 [] ?_
  refine m_isOf (d := d) (s := 2) hM (hTg G) rfl (by decide) (by omega) (fun _ => ?_) (fun w => absurd ⟨s, hs, rfl, so_s⟩ w)
  refine And.intro (fun hb => absurd hb (by decide)) (fun _ => ?_)
  refine m_isOf (d := d) (s := 2) hM (hTg G) rfl (by decide) (by omega) (fun _ => ?_) (fun w => absurd ⟨t, ht, rfl, so_t⟩ w)
  refine And.intro (fun _ => ?_) (fun hb => absurd (by decide) hb)
  refine And.intro (fun hb => absurd hb (by decide)) (fun _ => ?_)
  refine x_loadE (d := d) (r := 6) (a := s) (k := 0) (v := vE p D h S0) hM (by decide) rfl rfl (by decide) (by omega) (by omega) hS0 (by omega) (fun G1 J1 q1 f1 => ?_)
  refine x_loadE (d := d) (r := 8) (a := t) (k := 0) (v := vE p D h T0) hM (by decide) rfl rfl (by decide) (by omega) (by omega) hT0 (by omega) (fun G2 J2 q2 f2 => ?_)
  refine And.intro (fun hb => absurd hb (by decide)) (fun _ => ?_)
  refine x_loadE (d := d) (r := 7) (a := s) (k := 1) (v := vE p D h S1) hM (by decide) rfl (by decide) (by decide) (by omega) (by omega) hS1 (by omega) (fun G3 J3 q3 f3 => ?_)
  refine x_loadE (d := d) (r := 9) (a := t) (k := 1) (v := vE p D h T1) hM (by decide) rfl (by decide) (by decide) (by omega) (by omega) hT1 (by omega) (fun G4 J4 q4 f4 => ?_)
  refine And.intro (fun _ => ?_) (fun hb => absurd (by decide) hb)
  have q5 := ((f4 6 (by decide)).trans ((f3 6 (by decide)).trans ((f2 6 (by decide)).trans q1)))
  have q6 := ((f4 8 (by decide)).trans ((f3 8 (by decide)).trans q2))
  refine x_times (d := d) (r := 3) (a := 6) (b := 8) hM hA.1 rfl rfl rfl (by decide) (by decide) (by decide) q5 q6 (by omega) (fun G7 J7 q7 f7 => ?_)
  have q8 := ((f7 7 (by decide)).trans ((f4 7 (by decide)).trans q3))
  have q9 := ((f7 9 (by decide)).trans q4)
  refine x_times (d := d) (r := 4) (a := 7) (b := 9) hM hA.1 rfl rfl rfl (by decide) (by decide) (by decide) q8 q9 (by omega) (fun G10 J10 q10 f10 => ?_)
  have q11 := ((f10 3 (by decide)).trans q7)
  refine x_add (d := d) (r := 3) (a := 3) (b := 4) hM rfl rfl rfl (by decide) (by decide) (by decide) hA.1.1 hA.1.2.2.2.1.2 q11 q10 (by omega) (fun G12 J12 q12 f12 => ?_)
  refine m_isZero (d := d) (a := 3) hM rfl (by decide) hA.1.2.2.1 hA.1.2.2.2.1.2 q12 (by omega) (fun z13 => ?_) (fun z13 => ?_)
  · refine And.intro (fun hb => absurd hb (by decide)) (fun _ => ?_)
    exact ⟨rfl, c2 z13 G12 J12⟩
  · refine And.intro (fun _ => ?_) (fun hb => absurd (by decide) hb)
    have q14 := ((f12 6 (by decide)).trans ((f10 6 (by decide)).trans ((f7 6 (by decide)).trans q5)))
    have q15 := ((f12 9 (by decide)).trans ((f10 9 (by decide)).trans q9))
    have q16 := ((f12 8 (by decide)).trans ((f10 8 (by decide)).trans ((f7 8 (by decide)).trans q6)))
    have q17 := ((f12 7 (by decide)).trans ((f10 7 (by decide)).trans q8))
    refine M135w (d := d) hM hA rfl rfl rfl rfl rfl q14 q15 q16 q17 (by omega) (fun G18 J18 q18 f18 => ?_)
    rw [show ((TI p D h).sub ((TI p D h).mul S0 T1) ((TI p D h).mul T0 S1)) = ((TI p D h).sub ((TI p D h).mul S0 T1) ((TI p D h).mul S1 T0)) from @cr1 (TR p D h) (TI p D h) _ _ _ _] at q18
    refine m_isZero (d := d) (a := 46) hM rfl (by decide) hA.1.2.2.1 hA.1.2.2.2.1.2 q18 (by omega) (fun z19 => ?_) (fun z19 => ?_)
    · refine And.intro (fun hb => absurd hb (by decide)) (fun _ => ?_)
      exact ⟨rfl, c1 z13 z19 G18 J18⟩
    · refine And.intro (fun _ => ?_) (fun hb => absurd (by decide) hb)
      exact ⟨rfl, c0 z13 z19 G18 J18⟩
end Q2
