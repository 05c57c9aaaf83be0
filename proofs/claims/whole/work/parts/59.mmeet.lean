/-! The model: printed by mgen.py -/
section N2
variable {K : Ka} {d m p h : Nat} {M : Me} {I : Nat → Nat → Int32} {J : Nat → Nat → Int64} {D : Nat → Nat → Nat} {G : Nat → Nat → Int32}
theorem vE_cv [NeZero p] {D2 : Nat → Nat → Nat} {h2 : Nat} {X : TR p D h} (hk : h ≤ h2) : vE p D2 h2 (cv p D h D2 h2 X) = vE p D h X := funext (fun j => congrArg nI (congrFun (cv_tV hk X) j))
theorem cv_self [NeZero p] (X : TR p D h) : cv p D h D h X = X := oV_tV h X
theorem sb1 {R : Type} [Lean.Grind.CommRing R] (a b : R) : -a - b = -b - a := by grind
theorem sb2 {R : Type} [Lean.Grind.CommRing R] (a b : R) : -a + b = b - a := by grind
theorem sb3 {R : Type} [Lean.Grind.CommRing R] (a b : R) : -a * b = -(a * b) := by grind
theorem sb4 {R : Type} [Lean.Grind.CommRing R] (a : R) : -a - 0 = -0 - a := by grind
theorem sq0 [NeZero p] {X : TR p D h} (e : X = ((TI p D h).ofNat 0).ofNat) : @Sq (TR p D h) (TI p D h) X := ⟨((TI p D h).ofNat 0).ofNat, by rw [e]; exact (TI p D h).zero_mul _⟩
theorem rt0 [NeZero p] {X : TR p D h} (hp : Pr p) (hodd : p % 2 = 1) (hD : tOk p D h) (e : X = ((TI p D h).ofNat 0).ofNat) : rtE p D h X = ((TI p D h).ofNat 0).ofNat := by
  have hF := tw_Fl hp hodd h hD
  have h1 := rtE_sq (sq0 e)
  rw [e] at h1
  rw [e]
  exact (@Fl.dm (TR p D h) (TI p D h) p (2 ^ h) hF _ _ h1).elim id id
theorem sol0 [NeZero p] {D2 : Nat → Nat → Nat} {h2 : Nat} {v : Nat → Nat} {LI QU : TR p D h} (e1 : D2 = D) (e2 : h2 = h) (e3 : v = tV p D h ((TI p D h).ofNat 0).ofNat) : vE p D2 h2 (solE p D2 h2 (rtI p D2 h2 (oV p D2 h2 v) 0) (cv p D h D2 h2 LI) (cv p D h D2 h2 QU)) = vE p D h ((TI p D h).mul ((TI p D h).sub ((TI p D h).neg LI) ((TI p D h).ofNat 0).ofNat) (iv p D h ((TI p D h).add QU QU))) := by
  subst e1 e2 e3
  rw [cv_self, cv_self, oV_tV]
  have e : (TI p D2 h2).sub ((TI p D2 h2).neg LI) ((TI p D2 h2).ofNat 0).ofNat = (TI p D2 h2).sub ((TI p D2 h2).neg ((TI p D2 h2).ofNat 0).ofNat) LI := @sb4 (TR p D2 h2) (TI p D2 h2) LI
  rw [e]
  rfl
theorem gW_0 [NeZero p] {X : TR p D h} : gW p D h X (nI 0) = nI (gH p D h X - h) := by
  unfold gW gH
  split
  · rw [Nat.sub_self]
  · rw [Nat.add_sub_cancel_left]
    rfl
set_option maxHeartbeats 4000000 in
theorem M137_0 [NeZero p] { d' : Nat} {z0 : Int32} {X0 QU LI CO : TR p D h} {post : Option Value → Me → Prop} (hM : MoM M m) (hA : MoA I m p h D) (hz0 : z0 = nI 0) (hQU : G 46 = vE p D h QU) (hLI : G 47 = vE p D h LI) (hCO : G 48 = vE p D h CO) (hX0 : X0 = ((TI p D h).sub ((TI p D h).mul LI LI) ((TI p D h).add ((TI p D h).add ((TI p D h).mul QU CO) ((TI p D h).mul QU CO)) ((TI p D h).add ((TI p D h).mul QU CO) ((TI p D h).mul QU CO))))) (hd : d + 10 ≤ d') (c1 : QU = ((TI p D h).ofNat 0).ofNat → LI = ((TI p D h).ofNat 0).ofNat → CO = ((TI p D h).ofNat 0).ofNat → ∀ G1 J1, (∀ s, s ≠ 3 → s ≠ 4 → s ≠ 49 → s ≠ 50 → s ≠ 51 → (s < 14 ∨ 46 ≤ s) → G1 s = G s) → post (some (.int (Int32.ofInt (-3)))) (St M (rg I m G1) J1)) (c2 : QU = ((TI p D h).ofNat 0).ofNat → LI = ((TI p D h).ofNat 0).ofNat → ¬ CO = ((TI p D h).ofNat 0).ofNat → ∀ G1 J1, (∀ s, s ≠ 3 → s ≠ 4 → s ≠ 49 → s ≠ 50 → s ≠ 51 → (s < 14 ∨ 46 ≤ s) → G1 s = G s) → post (some (.int (Int32.ofInt (-4)))) (St M (rg I m G1) J1)) (c3 : QU = ((TI p D h).ofNat 0).ofNat → ¬ LI = ((TI p D h).ofNat 0).ofNat → ∀ G1 J1, G1 49 = vE p D h ((TI p D h).neg ((TI p D h).mul CO (iv p D h LI))) → (∀ s, s ≠ 3 → s ≠ 4 → s ≠ 49 → s ≠ 50 → s ≠ 51 → (s < 14 ∨ 46 ≤ s) → G1 s = G s) → post (some (.int (Int32.ofInt 0))) (St M (rg I m G1) J1)) (c6 : ¬ QU = ((TI p D h).ofNat 0).ofNat → RtC p D h X0 → ∀ I1 G1 J1, MoA I1 m p (gH p D h X0) (gB p D h X0) → G1 49 = vE p (gB p D h X0) (gH p D h X0) (solE p (gB p D h X0) (gH p D h X0) (rtI p (gB p D h X0) (gH p D h X0) (oV p (gB p D h X0) (gH p D h X0) (rV p D h X0)) 0) (cv p D h (gB p D h X0) (gH p D h X0) LI) (cv p D h (gB p D h X0) (gH p D h X0) QU)) → (∀ s, s ≠ 3 → s ≠ 4 → s ≠ 49 → s ≠ 50 → s ≠ 51 → (s < 14 ∨ 46 ≤ s) → G1 s = G s) → FrG I I1 m → I1 m 17 = gW p D h X0 (I m 17) → post (some (.int (Int32.ofInt 0))) (St M (rg I1 m G1) J1)) (c7 : ¬ QU = ((TI p D h).ofNat 0).ofNat → ¬ RtC p D h X0 → ∀ G1 J1, (∀ s, s ≠ 3 → s ≠ 4 → s ≠ 49 → s ≠ 50 → s ≠ 51 → (s < 14 ∨ 46 ≤ s) → G1 s = G s) → post (some (.int (Int32.ofInt (-5)))) (St M (rg I m G1) J1)) : Ok K d' 137 [.ref m, .int z0] (St M (rg I m G) J) post := by
  refine Ok.up (d := d + 10) (post := post) ?_ hd (fun _ _ h => h)
  subst hz0
  refine Ok.go (e := me_137) rfl rfl (Nat.le_of_ble_eq_true rfl) hM.c ?_
  refine Rf.go 250 [] ?_
  refine m_isZero (d := d) (a := 46) hM rfl (by decide) hA.1.2.2.1 hA.1.2.2.2.1.2 hQU (by omega) (fun z1 => ?_) (fun z1 => ?_)
  · refine m_isZero (d := d) (a := 47) hM rfl (by decide) hA.1.2.2.1 hA.1.2.2.2.1.2 hLI (by omega) (fun z2 => ?_) (fun z2 => ?_)
    · refine And.intro (fun hb => absurd hb (by decide)) (fun _ => ?_)
      refine And.intro (fun hb => absurd hb (by decide)) (fun _ => ?_)
      refine m_isZero (d := d) (a := 48) hM rfl (by decide) hA.1.2.2.1 hA.1.2.2.2.1.2 hCO (by omega) (fun z3 => ?_) (fun z3 => ?_)
      · refine And.intro (fun hb => absurd hb (by decide)) (fun _ => ?_)
        exact ⟨rfl, c1 z1 z2 z3 G J (fun s h1 h2 h3 h4 h5 h6 => rfl)⟩
      · refine And.intro (fun _ => ?_) (fun hb => absurd (by decide) hb)
        exact ⟨rfl, c2 z1 z2 z3 G J (fun s h1 h2 h3 h4 h5 h6 => rfl)⟩
    · refine And.intro (fun hb => absurd hb (by decide)) (fun _ => ?_)
      refine And.intro (fun _ => ?_) (fun hb => absurd (by decide) hb)
      refine And.intro (fun hb => absurd hb (by decide)) (fun _ => ?_)
      refine x_turn (d := d) (r := 3) (a := 48) hM rfl rfl (by decide) (by decide) hA.1.1 hA.1.2.2.2.1.2 hCO (by omega) (fun G4 J4 q4 f4 => ?_)
      have q5 := ((f4 47 (by decide)).trans hLI)
      refine m_invert (d := d) (r := 4) (a := 47) hM hA rfl rfl (by decide) (by decide) (by decide) q5 (by omega) (fun G6 J6 q6 f6 => ?_)
      have q7 := ((f6 3 (by decide) (by decide)).trans q4)
      refine x_times (d := d) (r := 49) (a := 3) (b := 4) hM hA.1 rfl rfl rfl (by decide) (by decide) (by decide) q7 q6 (by omega) (fun G8 J8 q8 f8 => ?_)
      refine And.intro (fun hb => absurd hb (by decide)) (fun _ => ?_)
      rw [show ((TI p D h).mul ((TI p D h).neg CO) (iv p D h LI)) = ((TI p D h).neg ((TI p D h).mul CO (iv p D h LI))) from @sb3 (TR p D h) (TI p D h) _ _] at q8
      exact ⟨rfl, c3 z1 z2 G8 J8 q8 (fun s h1 h2 h3 h4 h5 h6 => (((f8 s (by omega)).trans (f6 s (by omega) (by omega))).trans (f4 s (by omega))))⟩
  · refine m_isZero (d := d) (a := 47) hM rfl (by decide) hA.1.2.2.1 hA.1.2.2.2.1.2 hLI (by omega) (fun z9 => ?_) (fun z9 => ?_)
    · refine And.intro (fun _ => ?_) (fun hb => absurd (by decide) hb)
      refine And.intro (fun _ => ?_) (fun hb => absurd (by decide) hb)
      refine x_times (d := d) (r := 3) (a := 47) (b := 47) hM hA.1 rfl rfl rfl (by decide) (by decide) (by decide) hLI hLI (by omega) (fun G10 J10 q10 f10 => ?_)
      have q11 := ((f10 46 (by decide)).trans hQU)
      have q12 := ((f10 48 (by decide)).trans hCO)
      refine x_times (d := d) (r := 4) (a := 46) (b := 48) hM hA.1 rfl rfl rfl (by decide) (by decide) (by decide) q11 q12 (by omega) (fun G13 J13 q13 f13 => ?_)
      refine x_add (d := d) (r := 4) (a := 4) (b := 4) hM rfl rfl rfl (by decide) (by decide) (by decide) hA.1.1 hA.1.2.2.2.1.2 q13 q13 (by omega) (fun G14 J14 q14 f14 => ?_)
      refine x_add (d := d) (r := 4) (a := 4) (b := 4) hM rfl rfl rfl (by decide) (by decide) (by decide) hA.1.1 hA.1.2.2.2.1.2 q14 q14 (by omega) (fun G15 J15 q15 f15 => ?_)
      have q16 := ((f15 3 (by decide)).trans ((f14 3 (by decide)).trans ((f13 3 (by decide)).trans q10)))
      refine x_less (d := d) (r := 50) (a := 3) (b := 4) hM rfl rfl rfl (by decide) (by decide) (by decide) hA.1.1 hA.1.2.2.2.1.2 q16 q15 (by omega) (fun G17 J17 q17 f17 => ?_)
      rw [← hX0] at q17
      refine m_isZero (d := d) (a := 50) hM rfl (by decide) hA.1.2.2.1 hA.1.2.2.2.1.2 q17 (by omega) (fun z18 => ?_) (fun z18 => ?_)
      · refine And.intro (fun hb => absurd hb (by decide)) (fun _ => ?_)
        refine And.intro (fun _ => ?_) (fun hb => absurd (by decide) hb)
        refine And.intro (fun hb => absurd hb (by decide)) (fun _ => ?_)
        refine And.intro (fun hb => absurd hb (by decide)) (fun _ => ?_)
        refine x_set0 (d := d) (p := p) (D := D) (h := h) (r := 51) hM rfl (by decide) (by have := hA.1.2.2.2.1.1; omega) (by omega) (fun G19 J19 q19 f19 => ?_)
        refine And.intro (fun _ => ?_) (fun hb => absurd (by decide) hb)
        have q20 := ((f19 47 (by decide)).trans ((f17 47 (by decide)).trans ((f15 47 (by decide)).trans ((f14 47 (by decide)).trans ((f13 47 (by decide)).trans ((f10 47 (by decide)).trans hLI))))))
        refine x_turn (d := d) (r := 3) (a := 47) hM rfl rfl (by decide) (by decide) hA.1.1 hA.1.2.2.2.1.2 q20 (by omega) (fun G21 J21 q21 f21 => ?_)
        refine And.intro (fun hb => absurd hb (by decide)) (fun _ => ?_)
        have q22 := ((f21 51 (by decide)).trans q19)
        refine x_less (d := d) (r := 3) (a := 3) (b := 51) hM rfl rfl rfl (by decide) (by decide) (by decide) hA.1.1 hA.1.2.2.2.1.2 q21 q22 (by omega) (fun G23 J23 q23 f23 => ?_)
        have q24 := ((f23 46 (by decide)).trans ((f21 46 (by decide)).trans ((f19 46 (by decide)).trans ((f17 46 (by decide)).trans ((f15 46 (by decide)).trans ((f14 46 (by decide)).trans ((f13 46 (by decide)).trans q11)))))))
        refine x_add (d := d) (r := 4) (a := 46) (b := 46) hM rfl rfl rfl (by decide) (by decide) (by decide) hA.1.1 hA.1.2.2.2.1.2 q24 q24 (by omega) (fun G25 J25 q25 f25 => ?_)
        refine m_invert (d := d) (r := 4) (a := 4) hM hA rfl rfl (by decide) (by decide) (by decide) q25 (by omega) (fun G26 J26 q26 f26 => ?_)
        have q27 := ((f26 3 (by decide) (by decide)).trans ((f25 3 (by decide)).trans q23))
        refine x_times (d := d) (r := 49) (a := 3) (b := 4) hM hA.1 rfl rfl rfl (by decide) (by decide) (by decide) q27 q26 (by omega) (fun G28 J28 q28 f28 => ?_)
        have hs0 := sq0 z18
        have e1 : (gB p D h X0) = D := if_pos hs0
        have e2 : (gH p D h X0) = h := if_pos hs0
        have e3 : rV p D h X0 = tV p D h ((TI p D h).ofNat 0).ofNat := (if_pos hs0).trans (congrArg (tV p D h) (rt0 hA.2.2.2.1 hA.2.2.2.2 hA.2.2.1 z18))
        exact ⟨rfl, c6 z1 (Or.inl hs0) I G28 J28 (by rw [e1, e2]; exact hA) (q28.trans (sol0 e1 e2 e3).symm) (fun s h1 h2 h3 h4 h5 h6 => (((((((((((f28 s (by omega)).trans (f26 s (by omega) (by omega))).trans (f25 s (by omega))).trans (f23 s (by omega))).trans (f21 s (by omega))).trans (f19 s (by omega))).trans (f17 s (by omega))).trans (f15 s (by omega))).trans (f14 s (by omega))).trans (f13 s (by omega))).trans (f10 s (by omega)))) FrG.refl (if_pos hs0).symm⟩
      · refine And.intro (fun _ => ?_) (fun hb => absurd (by decide) hb)
        refine And.intro (fun _ => ?_) (fun hb => absurd (by decide) hb)
        refine m_rooted (d := d) (r := 51) (a := 50) (X := X0) hM hA rfl rfl (by decide) (by decide) (by decide) q17 (by omega) (fun c30 I32 G29 J29 hA31 q29 f29 fg33 w34 => ?_) (fun c30 G29 J29 f29 => ?_)
        · refine And.intro (fun _ => ?_) (fun hb => absurd (by decide) hb)
          refine And.intro (fun _ => ?_) (fun hb => absurd (by decide) hb)
          have q35 := ((f29 47 (by decide) (by decide)).trans ((f17 47 (by decide)).trans ((f15 47 (by decide)).trans ((f14 47 (by decide)).trans ((f13 47 (by decide)).trans ((f10 47 (by decide)).trans (hLI.trans (vE_cv (D2 := (gB p D h X0)) (h2 := (gH p D h X0)) gH_le.1).symm)))))))
          refine x_turn (d := d) (r := 3) (a := 47) hM rfl rfl (by decide) (by decide) hA31.1.1 hA31.1.2.2.2.1.2 q35 (by omega) (fun G36 J36 q36 f36 => ?_)
          refine And.intro (fun hb => absurd hb (by decide)) (fun _ => ?_)
          have q37 := ((f36 51 (by decide)).trans q29)
          refine x_less (d := d) (r := 3) (a := 3) (b := 51) hM rfl rfl rfl (by decide) (by decide) (by decide) hA31.1.1 hA31.1.2.2.2.1.2 q36 q37 (by omega) (fun G38 J38 q38 f38 => ?_)
          rw [show ((TI p (gB p D h X0) (gH p D h X0)).sub ((TI p (gB p D h X0) (gH p D h X0)).neg (cv p D h (gB p D h X0) (gH p D h X0) LI)) (oV p (gB p D h X0) (gH p D h X0) (rV p D h X0))) = ((TI p (gB p D h X0) (gH p D h X0)).sub ((TI p (gB p D h X0) (gH p D h X0)).neg (oV p (gB p D h X0) (gH p D h X0) (rV p D h X0))) (cv p D h (gB p D h X0) (gH p D h X0) LI)) from @sb1 (TR p (gB p D h X0) (gH p D h X0)) (TI p (gB p D h X0) (gH p D h X0)) (cv p D h (gB p D h X0) (gH p D h X0) LI) (oV p (gB p D h X0) (gH p D h X0) (rV p D h X0))] at q38
          have q39 := ((f38 46 (by decide)).trans ((f36 46 (by decide)).trans ((f29 46 (by decide) (by decide)).trans ((f17 46 (by decide)).trans ((f15 46 (by decide)).trans ((f14 46 (by decide)).trans ((f13 46 (by decide)).trans (q11.trans (vE_cv (D2 := (gB p D h X0)) (h2 := (gH p D h X0)) gH_le.1).symm))))))))
          refine x_add (d := d) (r := 4) (a := 46) (b := 46) hM rfl rfl rfl (by decide) (by decide) (by decide) hA31.1.1 hA31.1.2.2.2.1.2 q39 q39 (by omega) (fun G40 J40 q40 f40 => ?_)
          refine m_invert (d := d) (r := 4) (a := 4) hM hA31 rfl rfl (by decide) (by decide) (by decide) q40 (by omega) (fun G41 J41 q41 f41 => ?_)
          have q42 := ((f41 3 (by decide) (by decide)).trans ((f40 3 (by decide)).trans q38))
          refine x_times (d := d) (r := 49) (a := 3) (b := 4) hM hA31.1 rfl rfl rfl (by decide) (by decide) (by decide) q42 q41 (by omega) (fun G43 J43 q43 f43 => ?_)
          exact ⟨rfl, c6 z1 c30 I32 G43 J43 hA31 q43 (fun s h1 h2 h3 h4 h5 h6 => (((((((((((f43 s (by omega)).trans (f41 s (by omega) (by omega))).trans (f40 s (by omega))).trans (f38 s (by omega))).trans (f36 s (by omega))).trans (f29 s (by omega) (by omega))).trans (f17 s (by omega))).trans (f15 s (by omega))).trans (f14 s (by omega))).trans (f13 s (by omega))).trans (f10 s (by omega)))) fg33 w34⟩
        · refine And.intro (fun _ => ?_) (fun hb => absurd (by decide) hb)
          refine And.intro (fun hb => absurd hb (by decide)) (fun _ => ?_)
          exact ⟨rfl, c7 z1 c30 G29 J29 (fun s h1 h2 h3 h4 h5 h6 => ((((((f29 s (by omega) (by omega)).trans (f17 s (by omega))).trans (f15 s (by omega))).trans (f14 s (by omega))).trans (f13 s (by omega))).trans (f10 s (by omega))))⟩
    · refine And.intro (fun _ => ?_) (fun hb => absurd (by decide) hb)
      refine And.intro (fun _ => ?_) (fun hb => absurd (by decide) hb)
      refine x_times (d := d) (r := 3) (a := 47) (b := 47) hM hA.1 rfl rfl rfl (by decide) (by decide) (by decide) hLI hLI (by omega) (fun G44 J44 q44 f44 => ?_)
      have q45 := ((f44 46 (by decide)).trans hQU)
      have q46 := ((f44 48 (by decide)).trans hCO)
      refine x_times (d := d) (r := 4) (a := 46) (b := 48) hM hA.1 rfl rfl rfl (by decide) (by decide) (by decide) q45 q46 (by omega) (fun G47 J47 q47 f47 => ?_)
      refine x_add (d := d) (r := 4) (a := 4) (b := 4) hM rfl rfl rfl (by decide) (by decide) (by decide) hA.1.1 hA.1.2.2.2.1.2 q47 q47 (by omega) (fun G48 J48 q48 f48 => ?_)
      refine x_add (d := d) (r := 4) (a := 4) (b := 4) hM rfl rfl rfl (by decide) (by decide) (by decide) hA.1.1 hA.1.2.2.2.1.2 q48 q48 (by omega) (fun G49 J49 q49 f49 => ?_)
      have q50 := ((f49 3 (by decide)).trans ((f48 3 (by decide)).trans ((f47 3 (by decide)).trans q44)))
      refine x_less (d := d) (r := 50) (a := 3) (b := 4) hM rfl rfl rfl (by decide) (by decide) (by decide) hA.1.1 hA.1.2.2.2.1.2 q50 q49 (by omega) (fun G51 J51 q51 f51 => ?_)
      rw [← hX0] at q51
      refine m_isZero (d := d) (a := 50) hM rfl (by decide) hA.1.2.2.1 hA.1.2.2.2.1.2 q51 (by omega) (fun z52 => ?_) (fun z52 => ?_)
      · refine And.intro (fun hb => absurd hb (by decide)) (fun _ => ?_)
        refine And.intro (fun _ => ?_) (fun hb => absurd (by decide) hb)
        refine And.intro (fun hb => absurd hb (by decide)) (fun _ => ?_)
        refine And.intro (fun hb => absurd hb (by decide)) (fun _ => ?_)
        refine x_set0 (d := d) (p := p) (D := D) (h := h) (r := 51) hM rfl (by decide) (by have := hA.1.2.2.2.1.1; omega) (by omega) (fun G53 J53 q53 f53 => ?_)
        refine And.intro (fun _ => ?_) (fun hb => absurd (by decide) hb)
        have q54 := ((f53 47 (by decide)).trans ((f51 47 (by decide)).trans ((f49 47 (by decide)).trans ((f48 47 (by decide)).trans ((f47 47 (by decide)).trans ((f44 47 (by decide)).trans hLI))))))
        refine x_turn (d := d) (r := 3) (a := 47) hM rfl rfl (by decide) (by decide) hA.1.1 hA.1.2.2.2.1.2 q54 (by omega) (fun G55 J55 q55 f55 => ?_)
        refine And.intro (fun hb => absurd hb (by decide)) (fun _ => ?_)
        have q56 := ((f55 51 (by decide)).trans q53)
        refine x_less (d := d) (r := 3) (a := 3) (b := 51) hM rfl rfl rfl (by decide) (by decide) (by decide) hA.1.1 hA.1.2.2.2.1.2 q55 q56 (by omega) (fun G57 J57 q57 f57 => ?_)
        have q58 := ((f57 46 (by decide)).trans ((f55 46 (by decide)).trans ((f53 46 (by decide)).trans ((f51 46 (by decide)).trans ((f49 46 (by decide)).trans ((f48 46 (by decide)).trans ((f47 46 (by decide)).trans q45)))))))
        refine x_add (d := d) (r := 4) (a := 46) (b := 46) hM rfl rfl rfl (by decide) (by decide) (by decide) hA.1.1 hA.1.2.2.2.1.2 q58 q58 (by omega) (fun G59 J59 q59 f59 => ?_)
        refine m_invert (d := d) (r := 4) (a := 4) hM hA rfl rfl (by decide) (by decide) (by decide) q59 (by omega) (fun G60 J60 q60 f60 => ?_)
        have q61 := ((f60 3 (by decide) (by decide)).trans ((f59 3 (by decide)).trans q57))
        refine x_times (d := d) (r := 49) (a := 3) (b := 4) hM hA.1 rfl rfl rfl (by decide) (by decide) (by decide) q61 q60 (by omega) (fun G62 J62 q62 f62 => ?_)
        have hs0 := sq0 z52
        have e1 : (gB p D h X0) = D := if_pos hs0
        have e2 : (gH p D h X0) = h := if_pos hs0
        have e3 : rV p D h X0 = tV p D h ((TI p D h).ofNat 0).ofNat := (if_pos hs0).trans (congrArg (tV p D h) (rt0 hA.2.2.2.1 hA.2.2.2.2 hA.2.2.1 z52))
        exact ⟨rfl, c6 z1 (Or.inl hs0) I G62 J62 (by rw [e1, e2]; exact hA) (q62.trans (sol0 e1 e2 e3).symm) (fun s h1 h2 h3 h4 h5 h6 => (((((((((((f62 s (by omega)).trans (f60 s (by omega) (by omega))).trans (f59 s (by omega))).trans (f57 s (by omega))).trans (f55 s (by omega))).trans (f53 s (by omega))).trans (f51 s (by omega))).trans (f49 s (by omega))).trans (f48 s (by omega))).trans (f47 s (by omega))).trans (f44 s (by omega)))) FrG.refl (if_pos hs0).symm⟩
      · refine And.intro (fun _ => ?_) (fun hb => absurd (by decide) hb)
        refine And.intro (fun _ => ?_) (fun hb => absurd (by decide) hb)
        refine m_rooted (d := d) (r := 51) (a := 50) (X := X0) hM hA rfl rfl (by decide) (by decide) (by decide) q51 (by omega) (fun c64 I66 G63 J63 hA65 q63 f63 fg67 w68 => ?_) (fun c64 G63 J63 f63 => ?_)
        · refine And.intro (fun _ => ?_) (fun hb => absurd (by decide) hb)
          refine And.intro (fun _ => ?_) (fun hb => absurd (by decide) hb)
          have q69 := ((f63 47 (by decide) (by decide)).trans ((f51 47 (by decide)).trans ((f49 47 (by decide)).trans ((f48 47 (by decide)).trans ((f47 47 (by decide)).trans ((f44 47 (by decide)).trans (hLI.trans (vE_cv (D2 := (gB p D h X0)) (h2 := (gH p D h X0)) gH_le.1).symm)))))))
          refine x_turn (d := d) (r := 3) (a := 47) hM rfl rfl (by decide) (by decide) hA65.1.1 hA65.1.2.2.2.1.2 q69 (by omega) (fun G70 J70 q70 f70 => ?_)
          refine And.intro (fun hb => absurd hb (by decide)) (fun _ => ?_)
          have q71 := ((f70 51 (by decide)).trans q63)
          refine x_less (d := d) (r := 3) (a := 3) (b := 51) hM rfl rfl rfl (by decide) (by decide) (by decide) hA65.1.1 hA65.1.2.2.2.1.2 q70 q71 (by omega) (fun G72 J72 q72 f72 => ?_)
          rw [show ((TI p (gB p D h X0) (gH p D h X0)).sub ((TI p (gB p D h X0) (gH p D h X0)).neg (cv p D h (gB p D h X0) (gH p D h X0) LI)) (oV p (gB p D h X0) (gH p D h X0) (rV p D h X0))) = ((TI p (gB p D h X0) (gH p D h X0)).sub ((TI p (gB p D h X0) (gH p D h X0)).neg (oV p (gB p D h X0) (gH p D h X0) (rV p D h X0))) (cv p D h (gB p D h X0) (gH p D h X0) LI)) from @sb1 (TR p (gB p D h X0) (gH p D h X0)) (TI p (gB p D h X0) (gH p D h X0)) (cv p D h (gB p D h X0) (gH p D h X0) LI) (oV p (gB p D h X0) (gH p D h X0) (rV p D h X0))] at q72
          have q73 := ((f72 46 (by decide)).trans ((f70 46 (by decide)).trans ((f63 46 (by decide) (by decide)).trans ((f51 46 (by decide)).trans ((f49 46 (by decide)).trans ((f48 46 (by decide)).trans ((f47 46 (by decide)).trans (q45.trans (vE_cv (D2 := (gB p D h X0)) (h2 := (gH p D h X0)) gH_le.1).symm))))))))
          refine x_add (d := d) (r := 4) (a := 46) (b := 46) hM rfl rfl rfl (by decide) (by decide) (by decide) hA65.1.1 hA65.1.2.2.2.1.2 q73 q73 (by omega) (fun G74 J74 q74 f74 => ?_)
          refine m_invert (d := d) (r := 4) (a := 4) hM hA65 rfl rfl (by decide) (by decide) (by decide) q74 (by omega) (fun G75 J75 q75 f75 => ?_)
          have q76 := ((f75 3 (by decide) (by decide)).trans ((f74 3 (by decide)).trans q72))
          refine x_times (d := d) (r := 49) (a := 3) (b := 4) hM hA65.1 rfl rfl rfl (by decide) (by decide) (by decide) q76 q75 (by omega) (fun G77 J77 q77 f77 => ?_)
          exact ⟨rfl, c6 z1 c64 I66 G77 J77 hA65 q77 (fun s h1 h2 h3 h4 h5 h6 => (((((((((((f77 s (by omega)).trans (f75 s (by omega) (by omega))).trans (f74 s (by omega))).trans (f72 s (by omega))).trans (f70 s (by omega))).trans (f63 s (by omega) (by omega))).trans (f51 s (by omega))).trans (f49 s (by omega))).trans (f48 s (by omega))).trans (f47 s (by omega))).trans (f44 s (by omega)))) fg67 w68⟩
        · refine And.intro (fun _ => ?_) (fun hb => absurd (by decide) hb)
          refine And.intro (fun hb => absurd hb (by decide)) (fun _ => ?_)
          exact ⟨rfl, c7 z1 c64 G63 J63 (fun s h1 h2 h3 h4 h5 h6 => ((((((f63 s (by omega) (by omega)).trans (f51 s (by omega))).trans (f49 s (by omega))).trans (f48 s (by omega))).trans (f47 s (by omega))).trans (f44 s (by omega))))⟩
set_option maxHeartbeats 4000000 in
theorem M137_1 [NeZero p] { d' : Nat} {z0 : Int32} {X0 QU LI CO : TR p D h} {post : Option Value → Me → Prop} (hM : MoM M m) (hA : MoA I m p h D) (hz0 : z0 = nI 1) (hQU : G 46 = vE p D h QU) (hLI : G 47 = vE p D h LI) (hCO : G 48 = vE p D h CO) (hX0 : X0 = ((TI p D h).sub ((TI p D h).mul LI LI) ((TI p D h).add ((TI p D h).add ((TI p D h).mul QU CO) ((TI p D h).mul QU CO)) ((TI p D h).add ((TI p D h).mul QU CO) ((TI p D h).mul QU CO))))) (hd : d + 10 ≤ d') (c1 : QU = ((TI p D h).ofNat 0).ofNat → LI = ((TI p D h).ofNat 0).ofNat → CO = ((TI p D h).ofNat 0).ofNat → ∀ G1 J1, (∀ s, s ≠ 3 → s ≠ 4 → s ≠ 49 → s ≠ 50 → s ≠ 51 → (s < 14 ∨ 46 ≤ s) → G1 s = G s) → post (some (.int (Int32.ofInt (-3)))) (St M (rg I m G1) J1)) (c2 : QU = ((TI p D h).ofNat 0).ofNat → LI = ((TI p D h).ofNat 0).ofNat → ¬ CO = ((TI p D h).ofNat 0).ofNat → ∀ G1 J1, (∀ s, s ≠ 3 → s ≠ 4 → s ≠ 49 → s ≠ 50 → s ≠ 51 → (s < 14 ∨ 46 ≤ s) → G1 s = G s) → post (some (.int (Int32.ofInt (-4)))) (St M (rg I m G1) J1)) (c3 : QU = ((TI p D h).ofNat 0).ofNat → ¬ LI = ((TI p D h).ofNat 0).ofNat → ∀ G1 J1, (∀ s, s ≠ 3 → s ≠ 4 → s ≠ 49 → s ≠ 50 → s ≠ 51 → (s < 14 ∨ 46 ≤ s) → G1 s = G s) → post (some (.int (Int32.ofInt (-4)))) (St M (rg I m G1) J1)) (c5 : ¬ QU = ((TI p D h).ofNat 0).ofNat → X0 = ((TI p D h).ofNat 0).ofNat → ∀ G1 J1, (∀ s, s ≠ 3 → s ≠ 4 → s ≠ 49 → s ≠ 50 → s ≠ 51 → (s < 14 ∨ 46 ≤ s) → G1 s = G s) → post (some (.int (Int32.ofInt (-4)))) (St M (rg I m G1) J1)) (c6 : ¬ QU = ((TI p D h).ofNat 0).ofNat → ¬ X0 = ((TI p D h).ofNat 0).ofNat → RtC p D h X0 → ∀ I1 G1 J1, MoA I1 m p (gH p D h X0) (gB p D h X0) → G1 49 = vE p (gB p D h X0) (gH p D h X0) (solE p (gB p D h X0) (gH p D h X0) (rtI p (gB p D h X0) (gH p D h X0) (oV p (gB p D h X0) (gH p D h X0) (rV p D h X0)) 1) (cv p D h (gB p D h X0) (gH p D h X0) LI) (cv p D h (gB p D h X0) (gH p D h X0) QU)) → (∀ s, s ≠ 3 → s ≠ 4 → s ≠ 49 → s ≠ 50 → s ≠ 51 → (s < 14 ∨ 46 ≤ s) → G1 s = G s) → FrG I I1 m → I1 m 17 = gW p D h X0 (I m 17) → post (some (.int (Int32.ofInt 0))) (St M (rg I1 m G1) J1)) (c7 : ¬ QU = ((TI p D h).ofNat 0).ofNat → ¬ X0 = ((TI p D h).ofNat 0).ofNat → ¬ RtC p D h X0 → ∀ G1 J1, (∀ s, s ≠ 3 → s ≠ 4 → s ≠ 49 → s ≠ 50 → s ≠ 51 → (s < 14 ∨ 46 ≤ s) → G1 s = G s) → post (some (.int (Int32.ofInt (-5)))) (St M (rg I m G1) J1)) : Ok K d' 137 [.ref m, .int z0] (St M (rg I m G) J) post := by
  refine Ok.up (d := d + 10) (post := post) ?_ hd (fun _ _ h => h)
  subst hz0
  refine Ok.go (e := me_137) rfl rfl (Nat.le_of_ble_eq_true rfl) hM.c ?_
  refine Rf.go 250 [] ?_
  refine m_isZero (d := d) (a := 46) hM rfl (by decide) hA.1.2.2.1 hA.1.2.2.2.1.2 hQU (by omega) (fun z1 => ?_) (fun z1 => ?_)
  · refine m_isZero (d := d) (a := 47) hM rfl (by decide) hA.1.2.2.1 hA.1.2.2.2.1.2 hLI (by omega) (fun z2 => ?_) (fun z2 => ?_)
    · refine And.intro (fun hb => absurd hb (by decide)) (fun _ => ?_)
      refine And.intro (fun hb => absurd hb (by decide)) (fun _ => ?_)
      refine m_isZero (d := d) (a := 48) hM rfl (by decide) hA.1.2.2.1 hA.1.2.2.2.1.2 hCO (by omega) (fun z3 => ?_) (fun z3 => ?_)
      · refine And.intro (fun hb => absurd hb (by decide)) (fun _ => ?_)
        exact ⟨rfl, c1 z1 z2 z3 G J (fun s h1 h2 h3 h4 h5 h6 => rfl)⟩
      · refine And.intro (fun _ => ?_) (fun hb => absurd (by decide) hb)
        exact ⟨rfl, c2 z1 z2 z3 G J (fun s h1 h2 h3 h4 h5 h6 => rfl)⟩
    · refine And.intro (fun hb => absurd hb (by decide)) (fun _ => ?_)
      refine And.intro (fun _ => ?_) (fun hb => absurd (by decide) hb)
      refine And.intro (fun hb => absurd hb (by decide)) (fun _ => ?_)
      refine x_turn (d := d) (r := 3) (a := 48) hM rfl rfl (by decide) (by decide) hA.1.1 hA.1.2.2.2.1.2 hCO (by omega) (fun G4 J4 q4 f4 => ?_)
      have q5 := ((f4 47 (by decide)).trans hLI)
      refine m_invert (d := d) (r := 4) (a := 47) hM hA rfl rfl (by decide) (by decide) (by decide) q5 (by omega) (fun G6 J6 q6 f6 => ?_)
      have q7 := ((f6 3 (by decide) (by decide)).trans q4)
      refine x_times (d := d) (r := 49) (a := 3) (b := 4) hM hA.1 rfl rfl rfl (by decide) (by decide) (by decide) q7 q6 (by omega) (fun G8 J8 q8 f8 => ?_)
      refine And.intro (fun _ => ?_) (fun hb => absurd (by decide) hb)
      exact ⟨rfl, c3 z1 z2 G8 J8 (fun s h1 h2 h3 h4 h5 h6 => (((f8 s (by omega)).trans (f6 s (by omega) (by omega))).trans (f4 s (by omega))))⟩
  · refine m_isZero (d := d) (a := 47) hM rfl (by decide) hA.1.2.2.1 hA.1.2.2.2.1.2 hLI (by omega) (fun z9 => ?_) (fun z9 => ?_)
    · refine And.intro (fun _ => ?_) (fun hb => absurd (by decide) hb)
      refine And.intro (fun _ => ?_) (fun hb => absurd (by decide) hb)
      refine x_times (d := d) (r := 3) (a := 47) (b := 47) hM hA.1 rfl rfl rfl (by decide) (by decide) (by decide) hLI hLI (by omega) (fun G10 J10 q10 f10 => ?_)
      have q11 := ((f10 46 (by decide)).trans hQU)
      have q12 := ((f10 48 (by decide)).trans hCO)
      refine x_times (d := d) (r := 4) (a := 46) (b := 48) hM hA.1 rfl rfl rfl (by decide) (by decide) (by decide) q11 q12 (by omega) (fun G13 J13 q13 f13 => ?_)
      refine x_add (d := d) (r := 4) (a := 4) (b := 4) hM rfl rfl rfl (by decide) (by decide) (by decide) hA.1.1 hA.1.2.2.2.1.2 q13 q13 (by omega) (fun G14 J14 q14 f14 => ?_)
      refine x_add (d := d) (r := 4) (a := 4) (b := 4) hM rfl rfl rfl (by decide) (by decide) (by decide) hA.1.1 hA.1.2.2.2.1.2 q14 q14 (by omega) (fun G15 J15 q15 f15 => ?_)
      have q16 := ((f15 3 (by decide)).trans ((f14 3 (by decide)).trans ((f13 3 (by decide)).trans q10)))
      refine x_less (d := d) (r := 50) (a := 3) (b := 4) hM rfl rfl rfl (by decide) (by decide) (by decide) hA.1.1 hA.1.2.2.2.1.2 q16 q15 (by omega) (fun G17 J17 q17 f17 => ?_)
      rw [← hX0] at q17
      refine m_isZero (d := d) (a := 50) hM rfl (by decide) hA.1.2.2.1 hA.1.2.2.2.1.2 q17 (by omega) (fun z18 => ?_) (fun z18 => ?_)
      · refine And.intro (fun hb => absurd hb (by decide)) (fun _ => ?_)
        refine And.intro (fun hb => absurd hb (by decide)) (fun _ => ?_)
        exact ⟨rfl, c5 z1 z18 G17 J17 (fun s h1 h2 h3 h4 h5 h6 => (((((f17 s (by omega)).trans (f15 s (by omega))).trans (f14 s (by omega))).trans (f13 s (by omega))).trans (f10 s (by omega))))⟩
      · refine And.intro (fun _ => ?_) (fun hb => absurd (by decide) hb)
        refine And.intro (fun _ => ?_) (fun hb => absurd (by decide) hb)
        refine m_rooted (d := d) (r := 51) (a := 50) (X := X0) hM hA rfl rfl (by decide) (by decide) (by decide) q17 (by omega) (fun c20 I22 G19 J19 hA21 q19 f19 fg23 w24 => ?_) (fun c20 G19 J19 f19 => ?_)
        · refine And.intro (fun _ => ?_) (fun hb => absurd (by decide) hb)
          refine And.intro (fun _ => ?_) (fun hb => absurd (by decide) hb)
          have q25 := ((f19 47 (by decide) (by decide)).trans ((f17 47 (by decide)).trans ((f15 47 (by decide)).trans ((f14 47 (by decide)).trans ((f13 47 (by decide)).trans ((f10 47 (by decide)).trans (hLI.trans (vE_cv (D2 := (gB p D h X0)) (h2 := (gH p D h X0)) gH_le.1).symm)))))))
          refine x_turn (d := d) (r := 3) (a := 47) hM rfl rfl (by decide) (by decide) hA21.1.1 hA21.1.2.2.2.1.2 q25 (by omega) (fun G26 J26 q26 f26 => ?_)
          refine And.intro (fun _ => ?_) (fun hb => absurd (by decide) hb)
          have q27 := ((f26 51 (by decide)).trans q19)
          refine x_add (d := d) (r := 3) (a := 3) (b := 51) hM rfl rfl rfl (by decide) (by decide) (by decide) hA21.1.1 hA21.1.2.2.2.1.2 q26 q27 (by omega) (fun G28 J28 q28 f28 => ?_)
          rw [show ((TI p (gB p D h X0) (gH p D h X0)).add ((TI p (gB p D h X0) (gH p D h X0)).neg (cv p D h (gB p D h X0) (gH p D h X0) LI)) (oV p (gB p D h X0) (gH p D h X0) (rV p D h X0))) = ((TI p (gB p D h X0) (gH p D h X0)).sub (oV p (gB p D h X0) (gH p D h X0) (rV p D h X0)) (cv p D h (gB p D h X0) (gH p D h X0) LI)) from @sb2 (TR p (gB p D h X0) (gH p D h X0)) (TI p (gB p D h X0) (gH p D h X0)) (cv p D h (gB p D h X0) (gH p D h X0) LI) (oV p (gB p D h X0) (gH p D h X0) (rV p D h X0))] at q28
          have q29 := ((f28 46 (by decide)).trans ((f26 46 (by decide)).trans ((f19 46 (by decide) (by decide)).trans ((f17 46 (by decide)).trans ((f15 46 (by decide)).trans ((f14 46 (by decide)).trans ((f13 46 (by decide)).trans (q11.trans (vE_cv (D2 := (gB p D h X0)) (h2 := (gH p D h X0)) gH_le.1).symm))))))))
          refine x_add (d := d) (r := 4) (a := 46) (b := 46) hM rfl rfl rfl (by decide) (by decide) (by decide) hA21.1.1 hA21.1.2.2.2.1.2 q29 q29 (by omega) (fun G30 J30 q30 f30 => ?_)
          refine m_invert (d := d) (r := 4) (a := 4) hM hA21 rfl rfl (by decide) (by decide) (by decide) q30 (by omega) (fun G31 J31 q31 f31 => ?_)
          have q32 := ((f31 3 (by decide) (by decide)).trans ((f30 3 (by decide)).trans q28))
          refine x_times (d := d) (r := 49) (a := 3) (b := 4) hM hA21.1 rfl rfl rfl (by decide) (by decide) (by decide) q32 q31 (by omega) (fun G33 J33 q33 f33 => ?_)
          exact ⟨rfl, c6 z1 z18 c20 I22 G33 J33 hA21 q33 (fun s h1 h2 h3 h4 h5 h6 => (((((((((((f33 s (by omega)).trans (f31 s (by omega) (by omega))).trans (f30 s (by omega))).trans (f28 s (by omega))).trans (f26 s (by omega))).trans (f19 s (by omega) (by omega))).trans (f17 s (by omega))).trans (f15 s (by omega))).trans (f14 s (by omega))).trans (f13 s (by omega))).trans (f10 s (by omega)))) fg23 w24⟩
        · refine And.intro (fun _ => ?_) (fun hb => absurd (by decide) hb)
          refine And.intro (fun hb => absurd hb (by decide)) (fun _ => ?_)
          exact ⟨rfl, c7 z1 z18 c20 G19 J19 (fun s h1 h2 h3 h4 h5 h6 => ((((((f19 s (by omega) (by omega)).trans (f17 s (by omega))).trans (f15 s (by omega))).trans (f14 s (by omega))).trans (f13 s (by omega))).trans (f10 s (by omega))))⟩
    · refine And.intro (fun _ => ?_) (fun hb => absurd (by decide) hb)
      refine And.intro (fun _ => ?_) (fun hb => absurd (by decide) hb)
      refine x_times (d := d) (r := 3) (a := 47) (b := 47) hM hA.1 rfl rfl rfl (by decide) (by decide) (by decide) hLI hLI (by omega) (fun G34 J34 q34 f34 => ?_)
      have q35 := ((f34 46 (by decide)).trans hQU)
      have q36 := ((f34 48 (by decide)).trans hCO)
      refine x_times (d := d) (r := 4) (a := 46) (b := 48) hM hA.1 rfl rfl rfl (by decide) (by decide) (by decide) q35 q36 (by omega) (fun G37 J37 q37 f37 => ?_)
      refine x_add (d := d) (r := 4) (a := 4) (b := 4) hM rfl rfl rfl (by decide) (by decide) (by decide) hA.1.1 hA.1.2.2.2.1.2 q37 q37 (by omega) (fun G38 J38 q38 f38 => ?_)
      refine x_add (d := d) (r := 4) (a := 4) (b := 4) hM rfl rfl rfl (by decide) (by decide) (by decide) hA.1.1 hA.1.2.2.2.1.2 q38 q38 (by omega) (fun G39 J39 q39 f39 => ?_)
      have q40 := ((f39 3 (by decide)).trans ((f38 3 (by decide)).trans ((f37 3 (by decide)).trans q34)))
      refine x_less (d := d) (r := 50) (a := 3) (b := 4) hM rfl rfl rfl (by decide) (by decide) (by decide) hA.1.1 hA.1.2.2.2.1.2 q40 q39 (by omega) (fun G41 J41 q41 f41 => ?_)
      rw [← hX0] at q41
      refine m_isZero (d := d) (a := 50) hM rfl (by decide) hA.1.2.2.1 hA.1.2.2.2.1.2 q41 (by omega) (fun z42 => ?_) (fun z42 => ?_)
      · refine And.intro (fun hb => absurd hb (by decide)) (fun _ => ?_)
        refine And.intro (fun hb => absurd hb (by decide)) (fun _ => ?_)
        exact ⟨rfl, c5 z1 z42 G41 J41 (fun s h1 h2 h3 h4 h5 h6 => (((((f41 s (by omega)).trans (f39 s (by omega))).trans (f38 s (by omega))).trans (f37 s (by omega))).trans (f34 s (by omega))))⟩
      · refine And.intro (fun _ => ?_) (fun hb => absurd (by decide) hb)
        refine And.intro (fun _ => ?_) (fun hb => absurd (by decide) hb)
        refine m_rooted (d := d) (r := 51) (a := 50) (X := X0) hM hA rfl rfl (by decide) (by decide) (by decide) q41 (by omega) (fun c44 I46 G43 J43 hA45 q43 f43 fg47 w48 => ?_) (fun c44 G43 J43 f43 => ?_)
        · refine And.intro (fun _ => ?_) (fun hb => absurd (by decide) hb)
          refine And.intro (fun _ => ?_) (fun hb => absurd (by decide) hb)
          have q49 := ((f43 47 (by decide) (by decide)).trans ((f41 47 (by decide)).trans ((f39 47 (by decide)).trans ((f38 47 (by decide)).trans ((f37 47 (by decide)).trans ((f34 47 (by decide)).trans (hLI.trans (vE_cv (D2 := (gB p D h X0)) (h2 := (gH p D h X0)) gH_le.1).symm)))))))
          refine x_turn (d := d) (r := 3) (a := 47) hM rfl rfl (by decide) (by decide) hA45.1.1 hA45.1.2.2.2.1.2 q49 (by omega) (fun G50 J50 q50 f50 => ?_)
          refine And.intro (fun _ => ?_) (fun hb => absurd (by decide) hb)
          have q51 := ((f50 51 (by decide)).trans q43)
          refine x_add (d := d) (r := 3) (a := 3) (b := 51) hM rfl rfl rfl (by decide) (by decide) (by decide) hA45.1.1 hA45.1.2.2.2.1.2 q50 q51 (by omega) (fun G52 J52 q52 f52 => ?_)
          rw [show ((TI p (gB p D h X0) (gH p D h X0)).add ((TI p (gB p D h X0) (gH p D h X0)).neg (cv p D h (gB p D h X0) (gH p D h X0) LI)) (oV p (gB p D h X0) (gH p D h X0) (rV p D h X0))) = ((TI p (gB p D h X0) (gH p D h X0)).sub (oV p (gB p D h X0) (gH p D h X0) (rV p D h X0)) (cv p D h (gB p D h X0) (gH p D h X0) LI)) from @sb2 (TR p (gB p D h X0) (gH p D h X0)) (TI p (gB p D h X0) (gH p D h X0)) (cv p D h (gB p D h X0) (gH p D h X0) LI) (oV p (gB p D h X0) (gH p D h X0) (rV p D h X0))] at q52
          have q53 := ((f52 46 (by decide)).trans ((f50 46 (by decide)).trans ((f43 46 (by decide) (by decide)).trans ((f41 46 (by decide)).trans ((f39 46 (by decide)).trans ((f38 46 (by decide)).trans ((f37 46 (by decide)).trans (q35.trans (vE_cv (D2 := (gB p D h X0)) (h2 := (gH p D h X0)) gH_le.1).symm))))))))
          refine x_add (d := d) (r := 4) (a := 46) (b := 46) hM rfl rfl rfl (by decide) (by decide) (by decide) hA45.1.1 hA45.1.2.2.2.1.2 q53 q53 (by omega) (fun G54 J54 q54 f54 => ?_)
          refine m_invert (d := d) (r := 4) (a := 4) hM hA45 rfl rfl (by decide) (by decide) (by decide) q54 (by omega) (fun G55 J55 q55 f55 => ?_)
          have q56 := ((f55 3 (by decide) (by decide)).trans ((f54 3 (by decide)).trans q52))
          refine x_times (d := d) (r := 49) (a := 3) (b := 4) hM hA45.1 rfl rfl rfl (by decide) (by decide) (by decide) q56 q55 (by omega) (fun G57 J57 q57 f57 => ?_)
          exact ⟨rfl, c6 z1 z42 c44 I46 G57 J57 hA45 q57 (fun s h1 h2 h3 h4 h5 h6 => (((((((((((f57 s (by omega)).trans (f55 s (by omega) (by omega))).trans (f54 s (by omega))).trans (f52 s (by omega))).trans (f50 s (by omega))).trans (f43 s (by omega) (by omega))).trans (f41 s (by omega))).trans (f39 s (by omega))).trans (f38 s (by omega))).trans (f37 s (by omega))).trans (f34 s (by omega)))) fg47 w48⟩
        · refine And.intro (fun _ => ?_) (fun hb => absurd (by decide) hb)
          refine And.intro (fun hb => absurd hb (by decide)) (fun _ => ?_)
          exact ⟨rfl, c7 z1 z42 c44 G43 J43 (fun s h1 h2 h3 h4 h5 h6 => ((((((f43 s (by omega) (by omega)).trans (f41 s (by omega))).trans (f39 s (by omega))).trans (f38 s (by omega))).trans (f37 s (by omega))).trans (f34 s (by omega))))⟩
theorem qa1 {R : Type} [Lean.Grind.CommRing R] (a : R) : 1 + a * a = a * a + 1 := by grind
theorem qa2 {R : Type} [Lean.Grind.CommRing R] : (1 : R) = 0 * 0 + 1 := by grind
theorem qa3 {R : Type} [Lean.Grind.CommRing R] (a r : R) : -(a + a) = 0 * r - a + (0 * r - a) := by grind
theorem qa4 {R : Type} [Lean.Grind.CommRing R] (c s : R) : -c = -(0 * s + c) := by grind
theorem qu_f [NeZero p] {A B : TR p D h} (z : ¬ B = ((TI p D h).ofNat 0).ofNat) : ((TI p D h).add ((TI p D h).ofNat 1).ofNat ((TI p D h).mul A A)) = (quE p D h A B) := by
  unfold quE slE
  rw [sel_f z]
  exact @qa1 (TR p D h) (TI p D h) A
theorem qu_t [NeZero p] {A B : TR p D h} (z : B = ((TI p D h).ofNat 0).ofNat) : ((TI p D h).ofNat 1).ofNat = (quE p D h A B) := by
  unfold quE slE
  rw [sel_t z]
  exact @qa2 (TR p D h) (TI p D h)
theorem li_f [NeZero p] {A B C X Y : TR p D h} (z : ¬ B = ((TI p D h).ofNat 0).ofNat) : ((TI p D h).add ((TI p D h).sub ((TI p D h).mul A ((TI p D h).add C Y)) X) ((TI p D h).sub ((TI p D h).mul A ((TI p D h).add C Y)) X)) = (liE p D h A B C X Y) := by
  unfold liE slE alE acE
  simp only [sel_f z]
theorem li_t [NeZero p] {A B C X Y : TR p D h} (z : B = ((TI p D h).ofNat 0).ofNat) : ((TI p D h).neg ((TI p D h).add Y Y)) = (liE p D h A B C X Y) := by
  unfold liE slE alE acE
  simp only [sel_t z]
  exact @qa3 (TR p D h) (TI p D h) Y _
theorem co_f [NeZero p] {B C X Y S : TR p D h} (z : ¬ B = ((TI p D h).ofNat 0).ofNat) : ((TI p D h).sub ((TI p D h).add ((TI p D h).mul X X) ((TI p D h).mul ((TI p D h).add C Y) ((TI p D h).add C Y))) S) = (coE p D h B C X Y S) := by
  unfold coE alE acE
  simp only [sel_f z]
theorem co_t [NeZero p] {B C X Y S : TR p D h} (z : B = ((TI p D h).ofNat 0).ofNat) : ((TI p D h).sub ((TI p D h).add ((TI p D h).mul Y Y) ((TI p D h).mul ((TI p D h).add C X) ((TI p D h).add C X))) S) = (coE p D h B C X Y S) := by
  unfold coE alE acE
  simp only [sel_t z]
theorem plc_f [NeZero p] {A B C SO : TR p D h} (z : ¬ B = ((TI p D h).ofNat 0).ofNat) : plc p D h B C (slE p D h A B) SO = rz3 (tV p D h SO) (tV p D h ((TI p D h).neg ((TI p D h).add ((TI p D h).mul A SO) C))) (fun _ => 0) := by
  unfold plc acr slE
  simp only [sel_f z]
theorem plc_t [NeZero p] {A B C SO : TR p D h} (z : B = ((TI p D h).ofNat 0).ofNat) : plc p D h B C (slE p D h A B) SO = rz3 (tV p D h ((TI p D h).neg C)) (tV p D h SO) (fun _ => 0) := by
  unfold plc acr slE
  simp only [sel_t z]
  rw [show ((TI p D h).neg C) = ((TI p D h).neg ((TI p D h).add ((TI p D h).mul ((TI p D h).ofNat 0).ofNat SO) C)) from @qa4 (TR p D h) (TI p D h) C SO]
theorem cvz [NeZero p] {D2 : Nat → Nat → Nat} {h2 : Nat} {B : TR p D h} (hk : h ≤ h2) : cv p D h D2 h2 B = ((TI p D2 h2).ofNat 0).ofNat ↔ B = ((TI p D h).ofNat 0).ofNat := by
  constructor
  · intro q
    exact cv_inj hk (q.trans (cv_nul hk).symm)
  · intro q
    rw [q]
    exact cv_nul hk
theorem cv_sl [NeZero p] {D2 : Nat → Nat → Nat} {h2 : Nat} {A B : TR p D h} (hk : h ≤ h2) : cv p D h D2 h2 (slE p D h A B) = slE p D2 h2 (cv p D h D2 h2 A) (cv p D h D2 h2 B) := by
  unfold slE
  by_cases z : B = ((TI p D h).ofNat 0).ofNat
  · rw [sel_t z, sel_t ((cvz hk).mpr z)]
    exact cv_nul hk
  · rw [sel_f z, sel_f (fun q => z ((cvz hk).mp q))]
def FrX (I I1 : Nat → Nat → Int32) (m : Nat) : Prop := (∀ c, c ≠ m → c ≠ m + 8 → c ≠ m + 9 → c ≠ m + 10 → I1 c = I c) ∧ ∀ q, q ≠ 1 → q ≠ 16 → q ≠ 17 → I1 m q = I m q
/-- the outcome of a step in the model -/
def OutM (I I1 G1 : Nat → Nat → Int32) (m p : Nat) [NeZero p] (h sz : Nat) (so : Int32) (r : Rz) : Prop := MoA I1 m p r.2.2.1 r.2.1 ∧ (r.1 = Int32.ofInt 0 → (∀ i, i < sz → ∀ j, j < 8 → G1 i j = nI (r.2.2.2 i j)) ∧ I1 m 16 = so) ∧ I1 m 17 = nI (r.2.2.1 - h) ∧ FrX I I1 m
theorem OutM.no [NeZero p] {I1 G1 : Nat → Nat → Int32} {n so : Int32} {sz : Nat} (hn : ¬ n = Int32.ofInt 0) (hA : MoA I1 m p h D) (h17 : I1 m 17 = nI 0) (hf : FrX I I1 m) : OutM I I1 G1 m p h sz so (rzN n D h) := ⟨hA, fun q => absurd q hn, by rw [h17]; show nI 0 = nI (h - h); rw [Nat.sub_self], hf⟩
theorem FrX.refl : FrX I I m := ⟨fun _ _ _ _ _ => rfl, fun _ _ _ _ => rfl⟩
theorem FrX.put {I1 : Nat → Nat → Int32} {q : Nat} {x : Int32} (hf : FrX I I1 m) (hq : q = 16 ∨ q = 17) : FrX I (u2 I1 m q x) m := ⟨fun c h1 h2 h3 h4 => (u2_ne h1).trans (hf.1 c h1 h2 h3 h4), fun r h1 h2 h3 => by rw [u2_at, if_neg (by omega)]; exact hf.2 r h1 h2 h3⟩
theorem FrX.trans {I1 I2 : Nat → Nat → Int32} (h1 : FrX I I1 m) (h2 : FrX I1 I2 m) : FrX I I2 m := ⟨fun c a b c' d => (h2.1 c a b c' d).trans (h1.1 c a b c' d), fun q a b c => (h2.2 q a b c).trans (h1.2 q a b c)⟩
theorem FrG.x {I1 : Nat → Nat → Int32} (hf : FrG I I1 m) : FrX I I1 m := ⟨hf.1, fun q a _ c => hf.2 q a c⟩
theorem OutM.r2 [NeZero p] {I0 I1 G1 : Nat → Nat → Int32} {so : Int32} {h0 : Nat} {U V : TR p D h} {w : Nat → Nat} (hA : MoA I1 m p h D) (h0' : G1 0 = vE p D h U) (h1' : G1 1 = vE p D h V) (h16 : I1 m 16 = so) (h17 : I1 m 17 = nI (h - h0)) (hf : FrX I0 I1 m) : OutM I0 I1 G1 m p h0 2 so (Int32.ofInt 0, D, h, rz3 (tV p D h U) (tV p D h V) w) := by
  refine ⟨hA, fun _ => ⟨fun i hi j hj => ?_, h16⟩, h17, hf⟩
  rcases (show i = 0 ∨ i = 1 by omega) with rfl | rfl
  · rw [h0']; rfl
  · rw [h1']; rfl
theorem OutM.r1 [NeZero p] {I0 I1 G1 : Nat → Nat → Int32} {so : Int32} {h0 : Nat} {U : TR p D h} {v w : Nat → Nat} (hA : MoA I1 m p h D) (h0' : G1 0 = vE p D h U) (h16 : I1 m 16 = so) (h17 : I1 m 17 = nI (h - h0)) (hf : FrX I0 I1 m) : OutM I0 I1 G1 m p h0 1 so (Int32.ofInt 0, D, h, rz3 (tV p D h U) v w) := by
  refine ⟨hA, fun _ => ⟨fun i hi j hj => ?_, h16⟩, h17, hf⟩
  rcases (show i = 0 by omega) with rfl
  rw [h0']; rfl
theorem OutM.r3 [NeZero p] {I0 I1 G1 : Nat → Nat → Int32} {so : Int32} {h0 : Nat} {U V W : TR p D h} (hA : MoA I1 m p h D) (h0' : G1 0 = vE p D h U) (h1' : G1 1 = vE p D h V) (h2' : G1 2 = vE p D h W) (h16 : I1 m 16 = so) (h17 : I1 m 17 = nI (h - h0)) (hf : FrX I0 I1 m) : OutM I0 I1 G1 m p h0 3 so (Int32.ofInt 0, D, h, rz3 (tV p D h U) (tV p D h V) (tV p D h W)) := by
  refine ⟨hA, fun _ => ⟨fun i hi j hj => ?_, h16⟩, h17, hf⟩
  rcases (show i = 0 ∨ i = 1 ∨ i = 2 by omega) with rfl | rfl | rfl
  · rw [h0']; rfl
  · rw [h1']; rfl
  · rw [h2']; rfl
set_option maxHeartbeats 4000000 in
theorem M136_0 [NeZero p] {c d' : Nat} {z0 z1 : Int32} {A B C X Y S : TR p D h} {post : Option Value → Me → Prop} (hM : MoM M m) (hA : MoA I m p h D) (hz0 : z0 = nI c) (hz1 : z1 = nI 0) (hc : c < 60) (hA0 : G 0 = vE p D h A) (hB0 : G 1 = vE p D h B) (hC0 : G 2 = vE p D h C) (hX0 : ∀ j, j < 8 → I (m + 7) (24 * c + 8 * 0 + j) = vE p D h X j) (hY0 : ∀ j, j < 8 → I (m + 7) (24 * c + 8 * 1 + j) = vE p D h Y j) (hS0 : ∀ j, j < 8 → I (m + 7) (24 * c + 8 * 2 + j) = vE p D h S j) (h17 : I m 17 = nI 0) (hd : d + 11 ≤ d') (hp : ∀ I1 G1 J1, OutM I I1 G1 m p h 2 (Int32.ofInt 1) (mtF p D h A B C X Y S 0) → post (some (.int (mtF p D h A B C X Y S 0).1)) (St M (rg I1 m G1) J1)) : Ok K d' 136 [.ref m, .int z0, .int z1] (St M (rg I m G) J) post := by
  refine Ok.up (d := d + 11) (post := post) ?_ hd (fun _ _ h => h)
  subst hz0 hz1
  refine Ok.go (e := me_136) rfl rfl (Nat.le_of_ble_eq_true rfl) hM.c ?_
  refine Rf.go 300 [143] ?_
  refine m_isZero (d := d) (a := 1) hM rfl (by decide) hA.1.2.2.1 hA.1.2.2.2.1.2 hB0 (by omega) (fun z1 => ?_) (fun z1 => ?_)
  · refine And.intro (fun _ => ?_) (fun hb => absurd (by decide) hb)
    refine x_loadE (d := d) (r := 6) (a := c) (k := 0) (v := vE p D h X) hM rfl rfl rfl (by decide) (by omega) (by omega) hX0 (by omega) (fun G2 J2 q2 f2 => ?_)
    refine x_loadE (d := d) (r := 7) (a := c) (k := 1) (v := vE p D h Y) hM rfl rfl rfl (by decide) (by omega) (by omega) hY0 (by omega) (fun G3 J3 q3 f3 => ?_)
    refine x_loadE (d := d) (r := 8) (a := c) (k := 2) (v := vE p D h S) hM rfl rfl rfl (by decide) (by omega) (by omega) hS0 (by omega) (fun G4 J4 q4 f4 => ?_)
    refine x_set1 (d := d) (p := p) (D := D) (h := h) (r := 46) hM rfl (by decide) (by have := hA.1.2.2.2.1.1; omega) (by omega) (fun G5 J5 q5 f5 => ?_)
    refine And.intro (fun _ => ?_) (fun hb => absurd (by decide) hb)
    have q6 := ((f5 2 (by decide)).trans ((f4 2 (by decide)).trans ((f3 2 (by decide)).trans ((f2 2 (by decide)).trans hC0))))
    have q7 := ((f5 6 (by decide)).trans ((f4 6 (by decide)).trans ((f3 6 (by decide)).trans q2)))
    refine x_add (d := d) (r := 9) (a := 2) (b := 6) hM rfl rfl rfl (by decide) (by decide) (by decide) hA.1.1 hA.1.2.2.2.1.2 q6 q7 (by omega) (fun G8 J8 q8 f8 => ?_)
    have q9 := ((f8 7 (by decide)).trans ((f5 7 (by decide)).trans ((f4 7 (by decide)).trans q3)))
    refine x_add (d := d) (r := 3) (a := 7) (b := 7) hM rfl rfl rfl (by decide) (by decide) (by decide) hA.1.1 hA.1.2.2.2.1.2 q9 q9 (by omega) (fun G10 J10 q10 f10 => ?_)
    refine x_turn (d := d) (r := 47) (a := 3) hM rfl rfl (by decide) (by decide) hA.1.1 hA.1.2.2.2.1.2 q10 (by omega) (fun G11 J11 q11 f11 => ?_)
    have q12 := ((f11 7 (by decide)).trans ((f10 7 (by decide)).trans q9))
    refine x_times (d := d) (r := 48) (a := 7) (b := 7) hM hA.1 rfl rfl rfl (by decide) (by decide) (by decide) q12 q12 (by omega) (fun G13 J13 q13 f13 => ?_)
    have q14 := ((f13 9 (by decide)).trans ((f11 9 (by decide)).trans ((f10 9 (by decide)).trans q8)))
    refine x_times (d := d) (r := 3) (a := 9) (b := 9) hM hA.1 rfl rfl rfl (by decide) (by decide) (by decide) q14 q14 (by omega) (fun G15 J15 q15 f15 => ?_)
    have q16 := ((f15 48 (by decide)).trans q13)
    refine x_add (d := d) (r := 48) (a := 48) (b := 3) hM rfl rfl rfl (by decide) (by decide) (by decide) hA.1.1 hA.1.2.2.2.1.2 q16 q15 (by omega) (fun G17 J17 q17 f17 => ?_)
    have q18 := ((f17 8 (by decide)).trans ((f15 8 (by decide)).trans ((f13 8 (by decide)).trans ((f11 8 (by decide)).trans ((f10 8 (by decide)).trans ((f8 8 (by decide)).trans ((f5 8 (by decide)).trans q4)))))))
    refine x_less (d := d) (r := 48) (a := 48) (b := 8) hM rfl rfl rfl (by decide) (by decide) (by decide) hA.1.1 hA.1.2.2.2.1.2 q17 q18 (by omega) (fun G19 J19 q19 f19 => ?_)
    have q20 := ((f19 46 (by decide)).trans ((f17 46 (by decide)).trans ((f15 46 (by decide)).trans ((f13 46 (by decide)).trans ((f11 46 (by decide)).trans ((f10 46 (by decide)).trans ((f8 46 (by decide)).trans q5)))))))
    rw [show ((TI p D h).ofNat 1).ofNat = (quE p D h A B) from qu_t z1] at q20
    have q21 := ((f19 47 (by decide)).trans ((f17 47 (by decide)).trans ((f15 47 (by decide)).trans ((f13 47 (by decide)).trans q11))))
    rw [show ((TI p D h).neg ((TI p D h).add Y Y)) = (liE p D h A B C X Y) from li_t z1] at q21
    rw [show ((TI p D h).sub ((TI p D h).add ((TI p D h).mul Y Y) ((TI p D h).mul ((TI p D h).add C X) ((TI p D h).add C X))) S) = (coE p D h B C X Y S) from co_t z1] at q19
    refine M137_0 (d := d) (QU := (quE p D h A B)) (LI := (liE p D h A B C X Y)) (CO := (coE p D h B C X Y S)) (X0 := (diE p D h A B C X Y S)) hM hA rfl q20 q21 q19 rfl (by omega) (fun u23 v24 w25 G22 J22 f22 => ?_) (fun u23 v24 w25 G22 J22 f22 => ?_) (fun u23 v24 G22 J22 q22 f22 => ?_) (fun u23 w25 I26 G22 J22 hA27 q22 f22 fg28 w29 => ?_) (fun u23 w25 G22 J22 f22 => ?_)
    · refine And.intro (fun hb => absurd hb (by decide)) (fun _ => ?_)
      rw [mtF_1 u23 v24 w25] at hp
      exact ⟨rfl, hp I G22 J22 (OutM.no (by decide) hA h17 FrX.refl)⟩
    · refine And.intro (fun hb => absurd hb (by decide)) (fun _ => ?_)
      rw [mtF_2 u23 v24 w25] at hp
      exact ⟨rfl, hp I G22 J22 (OutM.no (by decide) hA h17 FrX.refl)⟩
    · refine And.intro (fun _ => ?_) (fun hb => absurd (by decide) hb)
      refine And.intro (fun _ => ?_) (fun hb => absurd (by decide) hb)
      have q30 := ((f22 2 (by decide) (by decide) (by decide) (by decide) (by decide) (by decide)).trans ((f19 2 (by decide)).trans ((f17 2 (by decide)).trans ((f15 2 (by decide)).trans ((f13 2 (by decide)).trans ((f11 2 (by decide)).trans ((f10 2 (by decide)).trans ((f8 2 (by decide)).trans q6))))))))
      refine x_turn (d := d) (r := 0) (a := 2) hM rfl rfl (by decide) (by decide) hA.1.1 hA.1.2.2.2.1.2 q30 (by omega) (fun G31 J31 q31 f31 => ?_)
      have q32 := ((f31 49 (by decide)).trans q22)
      refine x_copy (d := d) (r := 1) (a := 49) hM rfl rfl (by decide) (by decide) (by omega) (fun G33 J33 q33 f33 => ?_)
      have q34 := q33.trans q32
      refine x_set0 (d := d) (p := p) (D := D) (h := h) (r := 2) hM rfl (by decide) (by have := hA.1.2.2.2.1.1; omega) (by omega) (fun G35 J35 q35 f35 => ?_)
      refine And.intro hM.c ?_
      refine Rf.put ?_
      refine Rf.go 300 [143] ?_
      have hA36 := hA.put (x := Int32.ofInt 1) (q := 16) (by decide) (by decide)
      have q37 := ((f35 0 (by decide)).trans ((f33 0 (by decide)).trans q31))
      have q38 := ((f35 1 (by decide)).trans q34)
      rw [mtF_4 u23 v24 rfl] at hp
      rw [plc_t z1] at hp
      exact ⟨rfl, hp (u2 I m 16 (Int32.ofInt 1)) G35 J35 (OutM.r2 hA36 q37 q38 (by rw [u2_at, if_pos rfl]) (by rw [u2_at, if_neg (by decide), h17, Nat.sub_self]) (FrX.refl.put (Or.inl rfl)))⟩
    · refine And.intro (fun _ => ?_) (fun hb => absurd (by decide) hb)
      refine And.intro (fun _ => ?_) (fun hb => absurd (by decide) hb)
      have q39 := ((f22 2 (by decide) (by decide) (by decide) (by decide) (by decide) (by decide)).trans ((f19 2 (by decide)).trans ((f17 2 (by decide)).trans ((f15 2 (by decide)).trans ((f13 2 (by decide)).trans ((f11 2 (by decide)).trans ((f10 2 (by decide)).trans ((f8 2 (by decide)).trans (q6.trans (vE_cv (D2 := (gB p D h (diE p D h A B C X Y S))) (h2 := (gH p D h (diE p D h A B C X Y S))) gH_le.1).symm)))))))))
      refine x_turn (d := d) (r := 0) (a := 2) hM rfl rfl (by decide) (by decide) hA27.1.1 hA27.1.2.2.2.1.2 q39 (by omega) (fun G40 J40 q40 f40 => ?_)
      have q41 := ((f40 49 (by decide)).trans q22)
      refine x_copy (d := d) (r := 1) (a := 49) hM rfl rfl (by decide) (by decide) (by omega) (fun G42 J42 q42 f42 => ?_)
      have q43 := q42.trans q41
      refine x_set0 (d := d) (p := p) (D := (gB p D h (diE p D h A B C X Y S))) (h := (gH p D h (diE p D h A B C X Y S))) (r := 2) hM rfl (by decide) (by have := hA27.1.2.2.2.1.1; omega) (by omega) (fun G44 J44 q44 f44 => ?_)
      refine And.intro hM.c ?_
      refine Rf.put ?_
      refine Rf.go 300 [143] ?_
      have hA45 := hA27.put (x := Int32.ofInt 1) (q := 16) (by decide) (by decide)
      have q46 := ((f44 0 (by decide)).trans ((f42 0 (by decide)).trans q40))
      have q47 := ((f44 1 (by decide)).trans q43)
      rw [mtF_6 u23 (fun w => w.2 rfl) w25] at hp
      rw [cv_sl gH_le.1, plc_t ((cvz gH_le.1).mpr z1)] at hp
      exact ⟨rfl, hp (u2 I26 m 16 (Int32.ofInt 1)) G44 J44 (OutM.r2 hA45 q46 q47 (by rw [u2_at, if_pos rfl]) (by rw [u2_at, if_neg (by decide), w29, h17, gW_0]) (fg28.x.put (Or.inl rfl)))⟩
    · refine And.intro (fun hb => absurd hb (by decide)) (fun _ => ?_)
      rw [mtF_7 u23 (fun w => w.2 rfl) w25] at hp
      exact ⟨rfl, hp I G22 J22 (OutM.no (by decide) hA h17 FrX.refl)⟩
  · refine And.intro (fun hb => absurd hb (by decide)) (fun _ => ?_)
    refine x_loadE (d := d) (r := 6) (a := c) (k := 0) (v := vE p D h X) hM rfl rfl rfl (by decide) (by omega) (by omega) hX0 (by omega) (fun G48 J48 q48 f48 => ?_)
    refine x_loadE (d := d) (r := 7) (a := c) (k := 1) (v := vE p D h Y) hM rfl rfl rfl (by decide) (by omega) (by omega) hY0 (by omega) (fun G49 J49 q49 f49 => ?_)
    refine x_loadE (d := d) (r := 8) (a := c) (k := 2) (v := vE p D h S) hM rfl rfl rfl (by decide) (by omega) (by omega) hS0 (by omega) (fun G50 J50 q50 f50 => ?_)
    refine x_set1 (d := d) (p := p) (D := D) (h := h) (r := 46) hM rfl (by decide) (by have := hA.1.2.2.2.1.1; omega) (by omega) (fun G51 J51 q51 f51 => ?_)
    refine And.intro (fun hb => absurd hb (by decide)) (fun _ => ?_)
    have q52 := ((f51 2 (by decide)).trans ((f50 2 (by decide)).trans ((f49 2 (by decide)).trans ((f48 2 (by decide)).trans hC0))))
    have q53 := ((f51 7 (by decide)).trans ((f50 7 (by decide)).trans q49))
    refine x_add (d := d) (r := 9) (a := 2) (b := 7) hM rfl rfl rfl (by decide) (by decide) (by decide) hA.1.1 hA.1.2.2.2.1.2 q52 q53 (by omega) (fun G54 J54 q54 f54 => ?_)
    have q55 := ((f54 0 (by decide)).trans ((f51 0 (by decide)).trans ((f50 0 (by decide)).trans ((f49 0 (by decide)).trans ((f48 0 (by decide)).trans hA0)))))
    refine x_times (d := d) (r := 3) (a := 0) (b := 0) hM hA.1 rfl rfl rfl (by decide) (by decide) (by decide) q55 q55 (by omega) (fun G56 J56 q56 f56 => ?_)
    have q57 := ((f56 46 (by decide)).trans ((f54 46 (by decide)).trans q51))
    refine x_add (d := d) (r := 46) (a := 46) (b := 3) hM rfl rfl rfl (by decide) (by decide) (by decide) hA.1.1 hA.1.2.2.2.1.2 q57 q56 (by omega) (fun G58 J58 q58 f58 => ?_)
    have q59 := ((f58 0 (by decide)).trans ((f56 0 (by decide)).trans q55))
    have q60 := ((f58 9 (by decide)).trans ((f56 9 (by decide)).trans q54))
    refine x_times (d := d) (r := 3) (a := 0) (b := 9) hM hA.1 rfl rfl rfl (by decide) (by decide) (by decide) q59 q60 (by omega) (fun G61 J61 q61 f61 => ?_)
    have q62 := ((f61 6 (by decide)).trans ((f58 6 (by decide)).trans ((f56 6 (by decide)).trans ((f54 6 (by decide)).trans ((f51 6 (by decide)).trans ((f50 6 (by decide)).trans ((f49 6 (by decide)).trans q48)))))))
    refine x_less (d := d) (r := 3) (a := 3) (b := 6) hM rfl rfl rfl (by decide) (by decide) (by decide) hA.1.1 hA.1.2.2.2.1.2 q61 q62 (by omega) (fun G63 J63 q63 f63 => ?_)
    refine x_add (d := d) (r := 47) (a := 3) (b := 3) hM rfl rfl rfl (by decide) (by decide) (by decide) hA.1.1 hA.1.2.2.2.1.2 q63 q63 (by omega) (fun G64 J64 q64 f64 => ?_)
    have q65 := ((f64 6 (by decide)).trans ((f63 6 (by decide)).trans q62))
    refine x_times (d := d) (r := 48) (a := 6) (b := 6) hM hA.1 rfl rfl rfl (by decide) (by decide) (by decide) q65 q65 (by omega) (fun G66 J66 q66 f66 => ?_)
    have q67 := ((f66 9 (by decide)).trans ((f64 9 (by decide)).trans ((f63 9 (by decide)).trans ((f61 9 (by decide)).trans q60))))
    refine x_times (d := d) (r := 3) (a := 9) (b := 9) hM hA.1 rfl rfl rfl (by decide) (by decide) (by decide) q67 q67 (by omega) (fun G68 J68 q68 f68 => ?_)
    have q69 := ((f68 48 (by decide)).trans q66)
    refine x_add (d := d) (r := 48) (a := 48) (b := 3) hM rfl rfl rfl (by decide) (by decide) (by decide) hA.1.1 hA.1.2.2.2.1.2 q69 q68 (by omega) (fun G70 J70 q70 f70 => ?_)
    have q71 := ((f70 8 (by decide)).trans ((f68 8 (by decide)).trans ((f66 8 (by decide)).trans ((f64 8 (by decide)).trans ((f63 8 (by decide)).trans ((f61 8 (by decide)).trans ((f58 8 (by decide)).trans ((f56 8 (by decide)).trans ((f54 8 (by decide)).trans ((f51 8 (by decide)).trans q50))))))))))
    refine x_less (d := d) (r := 48) (a := 48) (b := 8) hM rfl rfl rfl (by decide) (by decide) (by decide) hA.1.1 hA.1.2.2.2.1.2 q70 q71 (by omega) (fun G72 J72 q72 f72 => ?_)
    have q73 := ((f72 46 (by decide)).trans ((f70 46 (by decide)).trans ((f68 46 (by decide)).trans ((f66 46 (by decide)).trans ((f64 46 (by decide)).trans ((f63 46 (by decide)).trans ((f61 46 (by decide)).trans q58)))))))
    rw [show ((TI p D h).add ((TI p D h).ofNat 1).ofNat ((TI p D h).mul A A)) = (quE p D h A B) from qu_f z1] at q73
    have q74 := ((f72 47 (by decide)).trans ((f70 47 (by decide)).trans ((f68 47 (by decide)).trans ((f66 47 (by decide)).trans q64))))
    rw [show ((TI p D h).add ((TI p D h).sub ((TI p D h).mul A ((TI p D h).add C Y)) X) ((TI p D h).sub ((TI p D h).mul A ((TI p D h).add C Y)) X)) = (liE p D h A B C X Y) from li_f z1] at q74
    rw [show ((TI p D h).sub ((TI p D h).add ((TI p D h).mul X X) ((TI p D h).mul ((TI p D h).add C Y) ((TI p D h).add C Y))) S) = (coE p D h B C X Y S) from co_f z1] at q72
    refine M137_0 (d := d) (QU := (quE p D h A B)) (LI := (liE p D h A B C X Y)) (CO := (coE p D h B C X Y S)) (X0 := (diE p D h A B C X Y S)) hM hA rfl q73 q74 q72 rfl (by omega) (fun u76 v77 w78 G75 J75 f75 => ?_) (fun u76 v77 w78 G75 J75 f75 => ?_) (fun u76 v77 G75 J75 q75 f75 => ?_) (fun u76 w78 I79 G75 J75 hA80 q75 f75 fg81 w82 => ?_) (fun u76 w78 G75 J75 f75 => ?_)
    · refine And.intro (fun hb => absurd hb (by decide)) (fun _ => ?_)
      rw [mtF_1 u76 v77 w78] at hp
      exact ⟨rfl, hp I G75 J75 (OutM.no (by decide) hA h17 FrX.refl)⟩
    · refine And.intro (fun hb => absurd hb (by decide)) (fun _ => ?_)
      rw [mtF_2 u76 v77 w78] at hp
      exact ⟨rfl, hp I G75 J75 (OutM.no (by decide) hA h17 FrX.refl)⟩
    · refine And.intro (fun _ => ?_) (fun hb => absurd (by decide) hb)
      refine And.intro (fun hb => absurd hb (by decide)) (fun _ => ?_)
      have q83 := ((f75 0 (by decide) (by decide) (by decide) (by decide) (by decide) (by decide)).trans ((f72 0 (by decide)).trans ((f70 0 (by decide)).trans ((f68 0 (by decide)).trans ((f66 0 (by decide)).trans ((f64 0 (by decide)).trans ((f63 0 (by decide)).trans ((f61 0 (by decide)).trans q59))))))))
      refine x_times (d := d) (r := 3) (a := 0) (b := 49) hM hA.1 rfl rfl rfl (by decide) (by decide) (by decide) q83 q75 (by omega) (fun G84 J84 q84 f84 => ?_)
      have q85 := ((f84 2 (by decide)).trans ((f75 2 (by decide) (by decide) (by decide) (by decide) (by decide) (by decide)).trans ((f72 2 (by decide)).trans ((f70 2 (by decide)).trans ((f68 2 (by decide)).trans ((f66 2 (by decide)).trans ((f64 2 (by decide)).trans ((f63 2 (by decide)).trans ((f61 2 (by decide)).trans ((f58 2 (by decide)).trans ((f56 2 (by decide)).trans ((f54 2 (by decide)).trans q52))))))))))))
      refine x_add (d := d) (r := 3) (a := 3) (b := 2) hM rfl rfl rfl (by decide) (by decide) (by decide) hA.1.1 hA.1.2.2.2.1.2 q84 q85 (by omega) (fun G86 J86 q86 f86 => ?_)
      refine x_turn (d := d) (r := 1) (a := 3) hM rfl rfl (by decide) (by decide) hA.1.1 hA.1.2.2.2.1.2 q86 (by omega) (fun G87 J87 q87 f87 => ?_)
      have q88 := ((f87 49 (by decide)).trans ((f86 49 (by decide)).trans ((f84 49 (by decide)).trans q75)))
      refine x_copy (d := d) (r := 0) (a := 49) hM rfl rfl (by decide) (by decide) (by omega) (fun G89 J89 q89 f89 => ?_)
      have q90 := q89.trans q88
      refine x_set0 (d := d) (p := p) (D := D) (h := h) (r := 2) hM rfl (by decide) (by have := hA.1.2.2.2.1.1; omega) (by omega) (fun G91 J91 q91 f91 => ?_)
      refine And.intro hM.c ?_
      refine Rf.put ?_
      refine Rf.go 300 [143] ?_
      have hA92 := hA.put (x := Int32.ofInt 1) (q := 16) (by decide) (by decide)
      have q93 := ((f91 0 (by decide)).trans q90)
      have q94 := ((f91 1 (by decide)).trans ((f89 1 (by decide)).trans q87))
      rw [mtF_4 u76 v77 rfl] at hp
      rw [plc_f z1] at hp
      exact ⟨rfl, hp (u2 I m 16 (Int32.ofInt 1)) G91 J91 (OutM.r2 hA92 q93 q94 (by rw [u2_at, if_pos rfl]) (by rw [u2_at, if_neg (by decide), h17, Nat.sub_self]) (FrX.refl.put (Or.inl rfl)))⟩
    · refine And.intro (fun _ => ?_) (fun hb => absurd (by decide) hb)
      refine And.intro (fun hb => absurd hb (by decide)) (fun _ => ?_)
      have q95 := ((f75 0 (by decide) (by decide) (by decide) (by decide) (by decide) (by decide)).trans ((f72 0 (by decide)).trans ((f70 0 (by decide)).trans ((f68 0 (by decide)).trans ((f66 0 (by decide)).trans ((f64 0 (by decide)).trans ((f63 0 (by decide)).trans ((f61 0 (by decide)).trans (q59.trans (vE_cv (D2 := (gB p D h (diE p D h A B C X Y S))) (h2 := (gH p D h (diE p D h A B C X Y S))) gH_le.1).symm)))))))))
      refine x_times (d := d) (r := 3) (a := 0) (b := 49) hM hA80.1 rfl rfl rfl (by decide) (by decide) (by decide) q95 q75 (by omega) (fun G96 J96 q96 f96 => ?_)
      have q97 := ((f96 2 (by decide)).trans ((f75 2 (by decide) (by decide) (by decide) (by decide) (by decide) (by decide)).trans ((f72 2 (by decide)).trans ((f70 2 (by decide)).trans ((f68 2 (by decide)).trans ((f66 2 (by decide)).trans ((f64 2 (by decide)).trans ((f63 2 (by decide)).trans ((f61 2 (by decide)).trans ((f58 2 (by decide)).trans ((f56 2 (by decide)).trans ((f54 2 (by decide)).trans (q52.trans (vE_cv (D2 := (gB p D h (diE p D h A B C X Y S))) (h2 := (gH p D h (diE p D h A B C X Y S))) gH_le.1).symm)))))))))))))
      refine x_add (d := d) (r := 3) (a := 3) (b := 2) hM rfl rfl rfl (by decide) (by decide) (by decide) hA80.1.1 hA80.1.2.2.2.1.2 q96 q97 (by omega) (fun G98 J98 q98 f98 => ?_)
      refine x_turn (d := d) (r := 1) (a := 3) hM rfl rfl (by decide) (by decide) hA80.1.1 hA80.1.2.2.2.1.2 q98 (by omega) (fun G99 J99 q99 f99 => ?_)
      have q100 := ((f99 49 (by decide)).trans ((f98 49 (by decide)).trans ((f96 49 (by decide)).trans q75)))
      refine x_copy (d := d) (r := 0) (a := 49) hM rfl rfl (by decide) (by decide) (by omega) (fun G101 J101 q101 f101 => ?_)
      have q102 := q101.trans q100
      refine x_set0 (d := d) (p := p) (D := (gB p D h (diE p D h A B C X Y S))) (h := (gH p D h (diE p D h A B C X Y S))) (r := 2) hM rfl (by decide) (by have := hA80.1.2.2.2.1.1; omega) (by omega) (fun G103 J103 q103 f103 => ?_)
      refine And.intro hM.c ?_
      refine Rf.put ?_
      refine Rf.go 300 [143] ?_
      have hA104 := hA80.put (x := Int32.ofInt 1) (q := 16) (by decide) (by decide)
      have q105 := ((f103 0 (by decide)).trans q102)
      have q106 := ((f103 1 (by decide)).trans ((f101 1 (by decide)).trans q99))
      rw [mtF_6 u76 (fun w => w.2 rfl) w78] at hp
      rw [cv_sl gH_le.1, plc_f (fun q => z1 ((cvz gH_le.1).mp q))] at hp
      exact ⟨rfl, hp (u2 I79 m 16 (Int32.ofInt 1)) G103 J103 (OutM.r2 hA104 q105 q106 (by rw [u2_at, if_pos rfl]) (by rw [u2_at, if_neg (by decide), w82, h17, gW_0]) (fg81.x.put (Or.inl rfl)))⟩
    · refine And.intro (fun hb => absurd hb (by decide)) (fun _ => ?_)
      rw [mtF_7 u76 (fun w => w.2 rfl) w78] at hp
      exact ⟨rfl, hp I G75 J75 (OutM.no (by decide) hA h17 FrX.refl)⟩
set_option maxHeartbeats 4000000 in
theorem M136_1 [NeZero p] {c d' : Nat} {z0 z1 : Int32} {A B C X Y S : TR p D h} {post : Option Value → Me → Prop} (hM : MoM M m) (hA : MoA I m p h D) (hz0 : z0 = nI c) (hz1 : z1 = nI 1) (hc : c < 60) (hA0 : G 0 = vE p D h A) (hB0 : G 1 = vE p D h B) (hC0 : G 2 = vE p D h C) (hX0 : ∀ j, j < 8 → I (m + 7) (24 * c + 8 * 0 + j) = vE p D h X j) (hY0 : ∀ j, j < 8 → I (m + 7) (24 * c + 8 * 1 + j) = vE p D h Y j) (hS0 : ∀ j, j < 8 → I (m + 7) (24 * c + 8 * 2 + j) = vE p D h S j) (h17 : I m 17 = nI 0) (hd : d + 11 ≤ d') (hp : ∀ I1 G1 J1, OutM I I1 G1 m p h 2 (Int32.ofInt 1) (mtF p D h A B C X Y S 1) → post (some (.int (mtF p D h A B C X Y S 1).1)) (St M (rg I1 m G1) J1)) : Ok K d' 136 [.ref m, .int z0, .int z1] (St M (rg I m G) J) post := by
  refine Ok.up (d := d + 11) (post := post) ?_ hd (fun _ _ h => h)
  subst hz0 hz1
  refine Ok.go (e := me_136) rfl rfl (Nat.le_of_ble_eq_true rfl) hM.c ?_
  refine Rf.go 300 [143] ?_
  refine m_isZero (d := d) (a := 1) hM rfl (by decide) hA.1.2.2.1 hA.1.2.2.2.1.2 hB0 (by omega) (fun z1 => ?_) (fun z1 => ?_)
  · refine And.intro (fun _ => ?_) (fun hb => absurd (by decide) hb)
    refine x_loadE (d := d) (r := 6) (a := c) (k := 0) (v := vE p D h X) hM rfl rfl rfl (by decide) (by omega) (by omega) hX0 (by omega) (fun G2 J2 q2 f2 => ?_)
    refine x_loadE (d := d) (r := 7) (a := c) (k := 1) (v := vE p D h Y) hM rfl rfl rfl (by decide) (by omega) (by omega) hY0 (by omega) (fun G3 J3 q3 f3 => ?_)
    refine x_loadE (d := d) (r := 8) (a := c) (k := 2) (v := vE p D h S) hM rfl rfl rfl (by decide) (by omega) (by omega) hS0 (by omega) (fun G4 J4 q4 f4 => ?_)
    refine x_set1 (d := d) (p := p) (D := D) (h := h) (r := 46) hM rfl (by decide) (by have := hA.1.2.2.2.1.1; omega) (by omega) (fun G5 J5 q5 f5 => ?_)
    refine And.intro (fun _ => ?_) (fun hb => absurd (by decide) hb)
    have q6 := ((f5 2 (by decide)).trans ((f4 2 (by decide)).trans ((f3 2 (by decide)).trans ((f2 2 (by decide)).trans hC0))))
    have q7 := ((f5 6 (by decide)).trans ((f4 6 (by decide)).trans ((f3 6 (by decide)).trans q2)))
    refine x_add (d := d) (r := 9) (a := 2) (b := 6) hM rfl rfl rfl (by decide) (by decide) (by decide) hA.1.1 hA.1.2.2.2.1.2 q6 q7 (by omega) (fun G8 J8 q8 f8 => ?_)
    have q9 := ((f8 7 (by decide)).trans ((f5 7 (by decide)).trans ((f4 7 (by decide)).trans q3)))
    refine x_add (d := d) (r := 3) (a := 7) (b := 7) hM rfl rfl rfl (by decide) (by decide) (by decide) hA.1.1 hA.1.2.2.2.1.2 q9 q9 (by omega) (fun G10 J10 q10 f10 => ?_)
    refine x_turn (d := d) (r := 47) (a := 3) hM rfl rfl (by decide) (by decide) hA.1.1 hA.1.2.2.2.1.2 q10 (by omega) (fun G11 J11 q11 f11 => ?_)
    have q12 := ((f11 7 (by decide)).trans ((f10 7 (by decide)).trans q9))
    refine x_times (d := d) (r := 48) (a := 7) (b := 7) hM hA.1 rfl rfl rfl (by decide) (by decide) (by decide) q12 q12 (by omega) (fun G13 J13 q13 f13 => ?_)
    have q14 := ((f13 9 (by decide)).trans ((f11 9 (by decide)).trans ((f10 9 (by decide)).trans q8)))
    refine x_times (d := d) (r := 3) (a := 9) (b := 9) hM hA.1 rfl rfl rfl (by decide) (by decide) (by decide) q14 q14 (by omega) (fun G15 J15 q15 f15 => ?_)
    have q16 := ((f15 48 (by decide)).trans q13)
    refine x_add (d := d) (r := 48) (a := 48) (b := 3) hM rfl rfl rfl (by decide) (by decide) (by decide) hA.1.1 hA.1.2.2.2.1.2 q16 q15 (by omega) (fun G17 J17 q17 f17 => ?_)
    have q18 := ((f17 8 (by decide)).trans ((f15 8 (by decide)).trans ((f13 8 (by decide)).trans ((f11 8 (by decide)).trans ((f10 8 (by decide)).trans ((f8 8 (by decide)).trans ((f5 8 (by decide)).trans q4)))))))
    refine x_less (d := d) (r := 48) (a := 48) (b := 8) hM rfl rfl rfl (by decide) (by decide) (by decide) hA.1.1 hA.1.2.2.2.1.2 q17 q18 (by omega) (fun G19 J19 q19 f19 => ?_)
    have q20 := ((f19 46 (by decide)).trans ((f17 46 (by decide)).trans ((f15 46 (by decide)).trans ((f13 46 (by decide)).trans ((f11 46 (by decide)).trans ((f10 46 (by decide)).trans ((f8 46 (by decide)).trans q5)))))))
    rw [show ((TI p D h).ofNat 1).ofNat = (quE p D h A B) from qu_t z1] at q20
    have q21 := ((f19 47 (by decide)).trans ((f17 47 (by decide)).trans ((f15 47 (by decide)).trans ((f13 47 (by decide)).trans q11))))
    rw [show ((TI p D h).neg ((TI p D h).add Y Y)) = (liE p D h A B C X Y) from li_t z1] at q21
    rw [show ((TI p D h).sub ((TI p D h).add ((TI p D h).mul Y Y) ((TI p D h).mul ((TI p D h).add C X) ((TI p D h).add C X))) S) = (coE p D h B C X Y S) from co_t z1] at q19
    refine M137_1 (d := d) (QU := (quE p D h A B)) (LI := (liE p D h A B C X Y)) (CO := (coE p D h B C X Y S)) (X0 := (diE p D h A B C X Y S)) hM hA rfl q20 q21 q19 rfl (by omega) (fun u23 v24 w25 G22 J22 f22 => ?_) (fun u23 v24 w25 G22 J22 f22 => ?_) (fun u23 v24 G22 J22 f22 => ?_) (fun u23 v24 G22 J22 f22 => ?_) (fun u23 v24 w25 I26 G22 J22 hA27 q22 f22 fg28 w29 => ?_) (fun u23 v24 w25 G22 J22 f22 => ?_)
    · refine And.intro (fun hb => absurd hb (by decide)) (fun _ => ?_)
      rw [mtF_1 u23 v24 w25] at hp
      exact ⟨rfl, hp I G22 J22 (OutM.no (by decide) hA h17 FrX.refl)⟩
    · refine And.intro (fun hb => absurd hb (by decide)) (fun _ => ?_)
      rw [mtF_2 u23 v24 w25] at hp
      exact ⟨rfl, hp I G22 J22 (OutM.no (by decide) hA h17 FrX.refl)⟩
    · refine And.intro (fun hb => absurd hb (by decide)) (fun _ => ?_)
      rw [mtF_3 u23 v24 (by decide)] at hp
      exact ⟨rfl, hp I G22 J22 (OutM.no (by decide) hA h17 FrX.refl)⟩
    · refine And.intro (fun hb => absurd hb (by decide)) (fun _ => ?_)
      rw [mtF_5 u23 v24 (by decide)] at hp
      exact ⟨rfl, hp I G22 J22 (OutM.no (by decide) hA h17 FrX.refl)⟩
    · refine And.intro (fun _ => ?_) (fun hb => absurd (by decide) hb)
      refine And.intro (fun _ => ?_) (fun hb => absurd (by decide) hb)
      have q30 := ((f22 2 (by decide) (by decide) (by decide) (by decide) (by decide) (by decide)).trans ((f19 2 (by decide)).trans ((f17 2 (by decide)).trans ((f15 2 (by decide)).trans ((f13 2 (by decide)).trans ((f11 2 (by decide)).trans ((f10 2 (by decide)).trans ((f8 2 (by decide)).trans (q6.trans (vE_cv (D2 := (gB p D h (diE p D h A B C X Y S))) (h2 := (gH p D h (diE p D h A B C X Y S))) gH_le.1).symm)))))))))
      refine x_turn (d := d) (r := 0) (a := 2) hM rfl rfl (by decide) (by decide) hA27.1.1 hA27.1.2.2.2.1.2 q30 (by omega) (fun G31 J31 q31 f31 => ?_)
      have q32 := ((f31 49 (by decide)).trans q22)
      refine x_copy (d := d) (r := 1) (a := 49) hM rfl rfl (by decide) (by decide) (by omega) (fun G33 J33 q33 f33 => ?_)
      have q34 := q33.trans q32
      refine x_set0 (d := d) (p := p) (D := (gB p D h (diE p D h A B C X Y S))) (h := (gH p D h (diE p D h A B C X Y S))) (r := 2) hM rfl (by decide) (by have := hA27.1.2.2.2.1.1; omega) (by omega) (fun G35 J35 q35 f35 => ?_)
      refine And.intro hM.c ?_
      refine Rf.put ?_
      refine Rf.go 300 [143] ?_
      have hA36 := hA27.put (x := Int32.ofInt 1) (q := 16) (by decide) (by decide)
      have q37 := ((f35 0 (by decide)).trans ((f33 0 (by decide)).trans q31))
      have q38 := ((f35 1 (by decide)).trans q34)
      rw [mtF_6 u23 (fun w => v24 w.1) w25] at hp
      rw [cv_sl gH_le.1, plc_t ((cvz gH_le.1).mpr z1)] at hp
      exact ⟨rfl, hp (u2 I26 m 16 (Int32.ofInt 1)) G35 J35 (OutM.r2 hA36 q37 q38 (by rw [u2_at, if_pos rfl]) (by rw [u2_at, if_neg (by decide), w29, h17, gW_0]) (fg28.x.put (Or.inl rfl)))⟩
    · refine And.intro (fun hb => absurd hb (by decide)) (fun _ => ?_)
      rw [mtF_7 u23 (fun w => v24 w.1) w25] at hp
      exact ⟨rfl, hp I G22 J22 (OutM.no (by decide) hA h17 FrX.refl)⟩
  · refine And.intro (fun hb => absurd hb (by decide)) (fun _ => ?_)
    refine x_loadE (d := d) (r := 6) (a := c) (k := 0) (v := vE p D h X) hM rfl rfl rfl (by decide) (by omega) (by omega) hX0 (by omega) (fun G39 J39 q39 f39 => ?_)
    refine x_loadE (d := d) (r := 7) (a := c) (k := 1) (v := vE p D h Y) hM rfl rfl rfl (by decide) (by omega) (by omega) hY0 (by omega) (fun G40 J40 q40 f40 => ?_)
    refine x_loadE (d := d) (r := 8) (a := c) (k := 2) (v := vE p D h S) hM rfl rfl rfl (by decide) (by omega) (by omega) hS0 (by omega) (fun G41 J41 q41 f41 => ?_)
    refine x_set1 (d := d) (p := p) (D := D) (h := h) (r := 46) hM rfl (by decide) (by have := hA.1.2.2.2.1.1; omega) (by omega) (fun G42 J42 q42 f42 => ?_)
    refine And.intro (fun hb => absurd hb (by decide)) (fun _ => ?_)
    have q43 := ((f42 2 (by decide)).trans ((f41 2 (by decide)).trans ((f40 2 (by decide)).trans ((f39 2 (by decide)).trans hC0))))
    have q44 := ((f42 7 (by decide)).trans ((f41 7 (by decide)).trans q40))
    refine x_add (d := d) (r := 9) (a := 2) (b := 7) hM rfl rfl rfl (by decide) (by decide) (by decide) hA.1.1 hA.1.2.2.2.1.2 q43 q44 (by omega) (fun G45 J45 q45 f45 => ?_)
    have q46 := ((f45 0 (by decide)).trans ((f42 0 (by decide)).trans ((f41 0 (by decide)).trans ((f40 0 (by decide)).trans ((f39 0 (by decide)).trans hA0)))))
    refine x_times (d := d) (r := 3) (a := 0) (b := 0) hM hA.1 rfl rfl rfl (by decide) (by decide) (by decide) q46 q46 (by omega) (fun G47 J47 q47 f47 => ?_)
    have q48 := ((f47 46 (by decide)).trans ((f45 46 (by decide)).trans q42))
    refine x_add (d := d) (r := 46) (a := 46) (b := 3) hM rfl rfl rfl (by decide) (by decide) (by decide) hA.1.1 hA.1.2.2.2.1.2 q48 q47 (by omega) (fun G49 J49 q49 f49 => ?_)
    have q50 := ((f49 0 (by decide)).trans ((f47 0 (by decide)).trans q46))
    have q51 := ((f49 9 (by decide)).trans ((f47 9 (by decide)).trans q45))
    refine x_times (d := d) (r := 3) (a := 0) (b := 9) hM hA.1 rfl rfl rfl (by decide) (by decide) (by decide) q50 q51 (by omega) (fun G52 J52 q52 f52 => ?_)
    have q53 := ((f52 6 (by decide)).trans ((f49 6 (by decide)).trans ((f47 6 (by decide)).trans ((f45 6 (by decide)).trans ((f42 6 (by decide)).trans ((f41 6 (by decide)).trans ((f40 6 (by decide)).trans q39)))))))
    refine x_less (d := d) (r := 3) (a := 3) (b := 6) hM rfl rfl rfl (by decide) (by decide) (by decide) hA.1.1 hA.1.2.2.2.1.2 q52 q53 (by omega) (fun G54 J54 q54 f54 => ?_)
    refine x_add (d := d) (r := 47) (a := 3) (b := 3) hM rfl rfl rfl (by decide) (by decide) (by decide) hA.1.1 hA.1.2.2.2.1.2 q54 q54 (by omega) (fun G55 J55 q55 f55 => ?_)
    have q56 := ((f55 6 (by decide)).trans ((f54 6 (by decide)).trans q53))
    refine x_times (d := d) (r := 48) (a := 6) (b := 6) hM hA.1 rfl rfl rfl (by decide) (by decide) (by decide) q56 q56 (by omega) (fun G57 J57 q57 f57 => ?_)
    have q58 := ((f57 9 (by decide)).trans ((f55 9 (by decide)).trans ((f54 9 (by decide)).trans ((f52 9 (by decide)).trans q51))))
    refine x_times (d := d) (r := 3) (a := 9) (b := 9) hM hA.1 rfl rfl rfl (by decide) (by decide) (by decide) q58 q58 (by omega) (fun G59 J59 q59 f59 => ?_)
    have q60 := ((f59 48 (by decide)).trans q57)
    refine x_add (d := d) (r := 48) (a := 48) (b := 3) hM rfl rfl rfl (by decide) (by decide) (by decide) hA.1.1 hA.1.2.2.2.1.2 q60 q59 (by omega) (fun G61 J61 q61 f61 => ?_)
    have q62 := ((f61 8 (by decide)).trans ((f59 8 (by decide)).trans ((f57 8 (by decide)).trans ((f55 8 (by decide)).trans ((f54 8 (by decide)).trans ((f52 8 (by decide)).trans ((f49 8 (by decide)).trans ((f47 8 (by decide)).trans ((f45 8 (by decide)).trans ((f42 8 (by decide)).trans q41))))))))))
    refine x_less (d := d) (r := 48) (a := 48) (b := 8) hM rfl rfl rfl (by decide) (by decide) (by decide) hA.1.1 hA.1.2.2.2.1.2 q61 q62 (by omega) (fun G63 J63 q63 f63 => ?_)
    have q64 := ((f63 46 (by decide)).trans ((f61 46 (by decide)).trans ((f59 46 (by decide)).trans ((f57 46 (by decide)).trans ((f55 46 (by decide)).trans ((f54 46 (by decide)).trans ((f52 46 (by decide)).trans q49)))))))
    rw [show ((TI p D h).add ((TI p D h).ofNat 1).ofNat ((TI p D h).mul A A)) = (quE p D h A B) from qu_f z1] at q64
    have q65 := ((f63 47 (by decide)).trans ((f61 47 (by decide)).trans ((f59 47 (by decide)).trans ((f57 47 (by decide)).trans q55))))
    rw [show ((TI p D h).add ((TI p D h).sub ((TI p D h).mul A ((TI p D h).add C Y)) X) ((TI p D h).sub ((TI p D h).mul A ((TI p D h).add C Y)) X)) = (liE p D h A B C X Y) from li_f z1] at q65
    rw [show ((TI p D h).sub ((TI p D h).add ((TI p D h).mul X X) ((TI p D h).mul ((TI p D h).add C Y) ((TI p D h).add C Y))) S) = (coE p D h B C X Y S) from co_f z1] at q63
    refine M137_1 (d := d) (QU := (quE p D h A B)) (LI := (liE p D h A B C X Y)) (CO := (coE p D h B C X Y S)) (X0 := (diE p D h A B C X Y S)) hM hA rfl q64 q65 q63 rfl (by omega) (fun u67 v68 w69 G66 J66 f66 => ?_) (fun u67 v68 w69 G66 J66 f66 => ?_) (fun u67 v68 G66 J66 f66 => ?_) (fun u67 v68 G66 J66 f66 => ?_) (fun u67 v68 w69 I70 G66 J66 hA71 q66 f66 fg72 w73 => ?_) (fun u67 v68 w69 G66 J66 f66 => ?_)
    · refine And.intro (fun hb => absurd hb (by decide)) (fun _ => ?_)
      rw [mtF_1 u67 v68 w69] at hp
      exact ⟨rfl, hp I G66 J66 (OutM.no (by decide) hA h17 FrX.refl)⟩
    · refine And.intro (fun hb => absurd hb (by decide)) (fun _ => ?_)
      rw [mtF_2 u67 v68 w69] at hp
      exact ⟨rfl, hp I G66 J66 (OutM.no (by decide) hA h17 FrX.refl)⟩
    · refine And.intro (fun hb => absurd hb (by decide)) (fun _ => ?_)
      rw [mtF_3 u67 v68 (by decide)] at hp
      exact ⟨rfl, hp I G66 J66 (OutM.no (by decide) hA h17 FrX.refl)⟩
    · refine And.intro (fun hb => absurd hb (by decide)) (fun _ => ?_)
      rw [mtF_5 u67 v68 (by decide)] at hp
      exact ⟨rfl, hp I G66 J66 (OutM.no (by decide) hA h17 FrX.refl)⟩
    · refine And.intro (fun _ => ?_) (fun hb => absurd (by decide) hb)
      refine And.intro (fun hb => absurd hb (by decide)) (fun _ => ?_)
      have q74 := ((f66 0 (by decide) (by decide) (by decide) (by decide) (by decide) (by decide)).trans ((f63 0 (by decide)).trans ((f61 0 (by decide)).trans ((f59 0 (by decide)).trans ((f57 0 (by decide)).trans ((f55 0 (by decide)).trans ((f54 0 (by decide)).trans ((f52 0 (by decide)).trans (q50.trans (vE_cv (D2 := (gB p D h (diE p D h A B C X Y S))) (h2 := (gH p D h (diE p D h A B C X Y S))) gH_le.1).symm)))))))))
      refine x_times (d := d) (r := 3) (a := 0) (b := 49) hM hA71.1 rfl rfl rfl (by decide) (by decide) (by decide) q74 q66 (by omega) (fun G75 J75 q75 f75 => ?_)
      have q76 := ((f75 2 (by decide)).trans ((f66 2 (by decide) (by decide) (by decide) (by decide) (by decide) (by decide)).trans ((f63 2 (by decide)).trans ((f61 2 (by decide)).trans ((f59 2 (by decide)).trans ((f57 2 (by decide)).trans ((f55 2 (by decide)).trans ((f54 2 (by decide)).trans ((f52 2 (by decide)).trans ((f49 2 (by decide)).trans ((f47 2 (by decide)).trans ((f45 2 (by decide)).trans (q43.trans (vE_cv (D2 := (gB p D h (diE p D h A B C X Y S))) (h2 := (gH p D h (diE p D h A B C X Y S))) gH_le.1).symm)))))))))))))
      refine x_add (d := d) (r := 3) (a := 3) (b := 2) hM rfl rfl rfl (by decide) (by decide) (by decide) hA71.1.1 hA71.1.2.2.2.1.2 q75 q76 (by omega) (fun G77 J77 q77 f77 => ?_)
      refine x_turn (d := d) (r := 1) (a := 3) hM rfl rfl (by decide) (by decide) hA71.1.1 hA71.1.2.2.2.1.2 q77 (by omega) (fun G78 J78 q78 f78 => ?_)
      have q79 := ((f78 49 (by decide)).trans ((f77 49 (by decide)).trans ((f75 49 (by decide)).trans q66)))
      refine x_copy (d := d) (r := 0) (a := 49) hM rfl rfl (by decide) (by decide) (by omega) (fun G80 J80 q80 f80 => ?_)
      have q81 := q80.trans q79
      refine x_set0 (d := d) (p := p) (D := (gB p D h (diE p D h A B C X Y S))) (h := (gH p D h (diE p D h A B C X Y S))) (r := 2) hM rfl (by decide) (by have := hA71.1.2.2.2.1.1; omega) (by omega) (fun G82 J82 q82 f82 => ?_)
      refine And.intro hM.c ?_
      refine Rf.put ?_
      refine Rf.go 300 [143] ?_
      have hA83 := hA71.put (x := Int32.ofInt 1) (q := 16) (by decide) (by decide)
      have q84 := ((f82 0 (by decide)).trans q81)
      have q85 := ((f82 1 (by decide)).trans ((f80 1 (by decide)).trans q78))
      rw [mtF_6 u67 (fun w => v68 w.1) w69] at hp
      rw [cv_sl gH_le.1, plc_f (fun q => z1 ((cvz gH_le.1).mp q))] at hp
      exact ⟨rfl, hp (u2 I70 m 16 (Int32.ofInt 1)) G82 J82 (OutM.r2 hA83 q84 q85 (by rw [u2_at, if_pos rfl]) (by rw [u2_at, if_neg (by decide), w73, h17, gW_0]) (fg72.x.put (Or.inl rfl)))⟩
    · refine And.intro (fun hb => absurd hb (by decide)) (fun _ => ?_)
      rw [mtF_7 u67 (fun w => v68 w.1) w69] at hp
      exact ⟨rfl, hp I G66 J66 (OutM.no (by decide) hA h17 FrX.refl)⟩
end N2
