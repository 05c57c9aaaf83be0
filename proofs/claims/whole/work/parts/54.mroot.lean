/-! The model's roots -/
section Mr
variable {K : Ka} {d m p h r a b k : Nat} {M : Me} {I : Nat → Nat → Int32} {J : Nat → Nat → Int64} {D : Nat → Nat → Nat} {G : Nat → Nat → Int32}
theorem x_baseE {d' : Nat} {z1 z2 : Int32} {v : Nat → Int32} {post : Option Value → Me → Prop} (hM : MoM M m) (hz1 : z1 = nI r) (hz2 : z2 = nI a) (hr : r < 64) (ha : a < 3) (hv : ∀ j, j < 8 → I (m + 8) (8 * a + j) = v j) (hd : d + 1 ≤ d') (hp : ∀ (G1 : Nat → Nat → Int32) (J1 : Nat → Nat → Int64), G1 r = v → (∀ s, s ≠ r → G1 s = G s) → post none (St M (rg I m G1) J1)) : Ok K d' 113 [.ref m, .int z1, .int z2] (St M (rg I m G) J) post :=
  m_baseAt (d := d) hM hz1 hz2 hr ha hd (fun J1 => by
    rw [rg_fu (g := v) hv]
    exact Gx hp J1)
theorem x_loadE {d' : Nat} {z1 z2 z3 : Int32} {v : Nat → Int32} {post : Option Value → Me → Prop} (hM : MoM M m) (hz1 : z1 = nI r) (hz2 : z2 = nI a) (hz3 : z3 = nI k) (hr : r < 64) (ha : a < 60) (hk : k < 3) (hv : ∀ j, j < 8 → I (m + 7) (24 * a + 8 * k + j) = v j) (hd : d + 1 ≤ d') (hp : ∀ (G1 : Nat → Nat → Int32) (J1 : Nat → Nat → Int64), G1 r = v → (∀ s, s ≠ r → G1 s = G s) → post none (St M (rg I m G1) J1)) : Ok K d' 120 [.ref m, .int z1, .int z2, .int z3] (St M (rg I m G) J) post :=
  m_load (d := d) hM hz1 hz2 hz3 hr ha hk hd (fun J1 => by
    rw [rg_fu (g := v) hv]
    exact Gx hp J1)
theorem x_halves [NeZero p] {s d' : Nat} {z1 z2 z3 z4 : Int32} {X : TR p D (k + 1)} {post : Option Value → Me → Prop} (hM : MoM M m) (hz1 : z1 = nI r) (hz2 : z2 = nI s) (hz3 : z3 = nI a) (hz4 : z4 = nI (k + 1)) (hr : r < 64) (hs : s < 64) (ha : a < 64) (hrs : r ≠ s) (har : a ≠ r) (has : a ≠ s) (hk : k < 3) (hX : G a = vE p D (k + 1) X) (hd : d + 1 ≤ d') (hp : ∀ (G1 : Nat → Nat → Int32) (J1 : Nat → Nat → Int64), G1 r = vE p D k X.1 → G1 s = vE p D k X.2 → (∀ q, q ≠ r → q ≠ s → G1 q = G q) → post none (St M (rg I m G1) J1)) : Ok K d' 112 [.ref m, .int z1, .int z2, .int z3, .int z4] (St M (rg I m G) J) post :=
  m_halves (d := d) hM hz1 hz2 hz3 hz4 hr hs ha hrs har has hk hX hd (fun J1 => hp _ J1 ((fu_ne hrs).trans fu_eq) fu_eq (fun q h1 h2 => (fu_ne h2).trans (fu_ne h1)))
theorem iv_Em [NeZero p] {X : TR p D k} (hp : Pr p) (hodd : p % 2 = 1) (h3 : 3 ≤ p) (hD : tOk p D h) (hk : k ≤ h) : iv p D h (Em p D k h X) = Em p D k h (iv p D k X) := by
  obtain ⟨W, hW⟩ := @Fl.isInv (TR p D k) (TI p D k) p (2 ^ k) (tw_Fl hp hodd k (hD.le hk)) X
  rw [iv_is hW]
  refine iv_is ⟨fun q => ?_, fun q => ?_⟩
  · have q : X = ((TI p D k).ofNat 0).ofNat := Em_inj hk (q.trans (Em_nul hk).symm)
    have := hW.1 q
    rw [this]
    exact Em_nul hk
  · have := hW.2 (fun q2 => q (by rw [q2]; exact Em_nul hk))
    exact (Em_mul hk X W).symm.trans ((congrArg (Em p D k h) this).trans (Em_one (by omega) hk))
theorem m_invertk [NeZero p] {d' : Nat} {z1 z2 : Int32} {X : TR p D k} {post : Option Value → Me → Prop} (hM : MoM M m) (hA : MoA I m p h D) (hk : k ≤ h) (hz1 : z1 = nI r) (hz2 : z2 = nI a) (hr : r < 64) (ha : a < 64) (ha2 : a < 32 ∨ 35 ≤ a) (hX : G a = vE p D k X) (hd : d + 2 ≤ d') (hp : ∀ G1 J1, G1 r = vE p D k (iv p D k X) → (∀ s, s ≠ r → (s < 32 ∨ 35 ≤ s) → G1 s = G s) → post none (St M (rg I m G1) J1)) : Ok K d' 106 [.ref m, .int z1, .int z2] (St M (rg I m G) J) post := by
  refine m_invert (d := d) (X := Em p D k h X) hM hA hz1 hz2 hr ha ha2 (hX.trans (vE_Em hk).symm) hd (fun G1 J1 q f => hp G1 J1 ?_ f)
  rw [iv_Em hA.2.2.2.1 hA.2.2.2.2 hA.1.2.2.2.1.1 hA.2.2.1 hk, vE_Em hk] at q
  exact q
theorem mul_nm1 [NeZero p] (A : TR p D k) (c : Nat) : (TI p D k).mul A (@nm (TR p D k) (TI p D k) c ((TI p D k).ofNat 1).ofNat) = @nm (TR p D k) (TI p D k) c A := by
  letI I9 := TI p D k
  show A * nm c 1 = nm c A
  have e : nm c (1 * A) = nm c 1 * A := nm_mulr 1 A c
  rw [show (1 : TR p D k) * A = A by grind] at e
  rw [e]
  grind
def MRt (K : Ka) (m p h : Nat) [NeZero p] (M : Me) (I : Nat → Nat → Int32) (D : Nat → Nat → Nat) (k num lo e : Nat) : Prop := ∀ (d d' : Nat) (G : Nat → Nat → Int32) (J : Nat → Nat → Int64) (r a : Nat) (z1 z2 : Int32) (X : TR p D k) (post : Option Value → Me → Prop), z1 = nI r → z2 = nI a → r < 64 → a < 64 → (r < lo ∨ 37 ≤ r) → (a < lo ∨ 37 ≤ a) → G a = vE p D k X → @Sq (TR p D k) (TI p D k) X → d + e ≤ d' → (∀ G1 J1 Y, (TI p D k).mul Y Y = X → G1 r = vE p D k Y → (∀ s, s ≠ r → (s < lo ∨ 37 ≤ s) → G1 s = G s) → post none (St M (rg I m G1) J1)) → Ok K d' num [.ref m, .int z1, .int z2] (St M (rg I m G) J) post
theorem fin_sq [NeZero p] {y X : TR p D 0} : (TI p D 0).mul y y = X ↔ Fin.val y * Fin.val y % p = Fin.val X :=
  ⟨fun e => (Fin.val_mul (n := p) y y).symm.trans (congrArg (Fin.val (n := p)) e), fun e => Fin.ext ((Fin.val_mul (n := p) y y).trans e)⟩
theorem alg1 {R : Type} [Lean.Grind.CommRing R] (a S : R) : (1 + 1) * (1 + 1) * ((a - S) * (a - (a - S))) = (1 + 1) * (1 + 1) * (S * (a - S)) := by grind
theorem vE_0 [NeZero p] (y : Fin p) : (fun j => if j = 0 then nI y.val else Int32.ofInt 0) = vE p D 0 y := funext (fun j => by
  show _ = nI (if j = 0 then y.val else 0)
  by_cases e : j = 0
  · rw [if_pos e, if_pos e]
  · rw [if_neg e, if_neg e]
    rfl)
set_option maxHeartbeats 2000000 in
theorem root0_ok [NeZero p] (hM : MoM M m) (hA : MoA I m p h D) : MRt K m p h M I D 0 110 37 2 := by
  intro d d' G J r a z1 z2 X post hz1 hz2 hr ha fr fa hX hs hd hp
  refine Ok.up (d := d + 2) (post := post) ?_ hd (fun _ _ h => h)
  subst hz1 hz2
  have hpb := hA.1.2.2.2.1
  obtain ⟨y0, hy0⟩ := hs
  have hxl : Fin.val X < p := Fin.isLt X
  have hyv : Fin.val y0 * Fin.val y0 % p = Fin.val X := fin_sq.mp hy0
  have hyl : Fin.val y0 < p := Fin.isLt y0
  have hX0 : G a 0 = nI (Fin.val X) := by rw [hX]; rfl
  have hpe : (rg I m G m 0).toInt64 = lN p := by rw [rg_m, hA.1.1, nI_l (by omega)]
  have hp0' : ¬ lN p = 0 := fun q => by
    have := (lN_eq (a := p) (b := 0) (by omega) (by omega)).mp q
    omega
  have e1 : rg I m G (m + 11) (Int32.ofInt 8 * nI a).toNatClampNeg = nI (Fin.val X) := by rw [ix80 ha, rg_at (by decide)]; exact hX0
  refine Ok.go (e := me_110) rfl rfl (Nat.le_of_ble_eq_true rfl) hM.c ?_
  have key : ∀ n y, y + n = Fin.val y0 → Rf K (d + 1) mc_110 9 (lk [(4, .int (nI y)), (3, .int (nI (Fin.val X))), (0, .ref m), (1, .int (nI r))]) [] (St M (rg I m G) J) (fun r M1 => rok me_110.2.2.2.1 r = true ∧ post r M1) := by
    intro n
    induction n with
    | zero =>
      intro y hy
      have hy : y = Fin.val y0 := by omega
      subst hy
      have e2 : (nI (Fin.val y0)).toInt64 * (nI (Fin.val y0)).toInt64 - (nI (Fin.val y0)).toInt64 * (nI (Fin.val y0)).toInt64 / (rg I m G m 0).toInt64 * (rg I m G m 0).toInt64 = lN (Fin.val X) := by rw [hpe, nI_l (by omega), lN_mul, pk_lRem (by have := sq_lt hyl hyl hpb.2; omega) (by omega) (by omega), hyv]
      refine Rf.go 100 [9] ?_
      refine And.intro hM.c ?_
      refine And.intro (by show ¬ (rg I m G m 0).toInt64 = 0; rw [hpe]; exact hp0') ?_
      refine And.intro (fun _ => ?_) (fun hc => absurd ?_ hc)
      · refine m_set (d := d) hM rfl hr (by omega) (Gx (post := fun r M1 => rok me_110.2.2.2.1 r = true ∧ post r M1) (fun G1 J1 q f => ?_))
        exact ⟨rfl, hp G1 J1 y0 hy0 (q.trans (vE_0 (p := p) y0)) (fun s h1 _ => f s h1)⟩
      · show cmpI .eq (lg_cmp ((nI (Fin.val y0)).toInt64 * (nI (Fin.val y0)).toInt64 - (nI (Fin.val y0)).toInt64 * (nI (Fin.val y0)).toInt64 / (rg I m G m 0).toInt64 * (rg I m G m 0).toInt64) (nI (Fin.val X)).toInt64) 0 = true
        rw [e2, nI_l (by omega)]
        exact decide_eq_true ((lg_cmp_eq _ _).mpr rfl)
    | succ n ih =>
      intro y hy
      have hyp : y < p := by omega
      have e2 : (nI y).toInt64 * (nI y).toInt64 - (nI y).toInt64 * (nI y).toInt64 / (rg I m G m 0).toInt64 * (rg I m G m 0).toInt64 = lN (y * y % p) := by rw [hpe, nI_l (by omega), lN_mul, pk_lRem (by have := sq_lt hyp hyp hpb.2; omega) (by omega) (by omega)]
      have hml : y * y % p < p := Nat.mod_lt _ (by omega)
      refine Rf.go 100 [9] ?_
      refine And.intro hM.c ?_
      refine And.intro (by show ¬ (rg I m G m 0).toInt64 = 0; rw [hpe]; exact hp0') ?_
      refine And.intro (fun hc => ?_) (fun hc => ?_)
      · have hc : cmpI .eq (lg_cmp ((nI y).toInt64 * (nI y).toInt64 - (nI y).toInt64 * (nI y).toInt64 / (rg I m G m 0).toInt64 * (rg I m G m 0).toInt64) (nI (Fin.val X)).toInt64) 0 = true := hc
        rw [e2, nI_l (by omega)] at hc
        have hc : y * y % p = Fin.val X := (lN_eq (by omega) (by omega)).mp ((lg_cmp_eq _ _).mp (of_decide_eq_true hc))
        refine m_set (d := d) hM rfl hr (by omega) (Gx (post := fun r M1 => rok me_110.2.2.2.1 r = true ∧ post r M1) (fun G1 J1 q f => ?_))
        refine ⟨rfl, hp G1 J1 (⟨y, hyp⟩ : Fin p) ?_ (q.trans (vE_0 (p := p) ⟨y, hyp⟩)) (fun s h1 _ => f s h1)⟩
        exact fin_sq.mpr hc
      · exact Rf.weak [(4, .int (nI (y + 1))), (3, .int (nI (Fin.val X))), (0, .ref m), (1, .int (nI r))] ⟨inc1 y, rfl, rfl, rfl, trivial⟩ (ih (y + 1) (by omega))
  refine Rf.go 100 [9] ?_
  refine And.intro hM.c ⟨m + 11, hM.r14, ?_⟩
  refine Or.inr (And.intro ⟨hM.rcg, hM.in0 ha⟩ ?_)
  exact Rf.weak [(4, .int (nI 0)), (3, .int (nI (Fin.val X))), (0, .ref m), (1, .int (nI r))] ⟨rfl, congrArg (fun z => some (Value.int z)) e1, rfl, rfl, trivial⟩ (key (Fin.val y0) 0 (by omega))
set_option maxHeartbeats 4000000 in
theorem m_half [NeZero p] {w d' : Nat} {z1 z2 : Int32} {A Y : TR p D k} {post : Option Value → Me → Prop} (hM : MoM M m) (hA : MoA I m p h D) (hk : k ≤ h) (hz1 : z1 = nI w) (hz2 : z2 = nI k) (hw : w < 27) (hX : G w = vE p D k A) (hY : G (w + 3) = vE p D k Y) (hd : d + 3 ≤ d') (hp : ∀ G1 J1 S, (TI p D k).add S S = (TI p D k).add A Y → (@Sq (TR p D k) (TI p D k) S ∧ G1 (w + 4) = vE p D k S ∨ ¬ @Sq (TR p D k) (TI p D k) S ∧ G1 (w + 4) = vE p D k ((TI p D k).sub A S)) → G1 (w + 2) = vE p D k (@nm (TR p D k) (TI p D k) ((p + 1) / 2) ((TI p D k).ofNat 1).ofNat) → (∀ s, s ≠ w + 2 → s ≠ w + 4 → (s < 35 ∨ 37 ≤ s) → G1 s = G s) → post none (St M (rg I m G1) J1)) : Ok K d' 114 [.ref m, .int z1, .int z2] (St M (rg I m G) J) post := by
  refine Ok.up (d := d + 3) (post := post) ?_ hd (fun _ _ h => h)
  subst hz1 hz2
  have hI := hA.1
  have hpb := hI.2.2.2.1
  have hodd := hA.2.2.2.2
  have hF := tw_Fl hA.2.2.2.1 hodd k (hA.2.2.1.le hk)
  have hh3 := hI.2.2.1
  refine Ok.go (e := me_114) rfl rfl (Nat.le_of_ble_eq_true rfl) hM.c ?_
  refine Rf.go 200 [] ?_
  refine And.intro hM.c ?_
  refine And.intro (by decide) ?_
  have e2 : (rg I m G m 0 + Int32.ofInt 1) / Int32.ofInt 2 = nI ((p + 1) / 2) := by
    rw [rg_m, hI.1, show Int32.ofInt 1 = nI 1 from rfl, nI_add]
    exact pk_div (d := 2) (by omega) (by decide) (by decide)
  refine x_setE (d := d) (p := p) (D := D) (h := k) (r := w + 2) (c := (p + 1) / 2) hM (nI_add w 2) e2 (by omega) (by omega) (by omega) (by omega) (fun G1 J1 q1 f1 => ?_)
  refine x_add (d := d) (r := w + 4) (a := w) (b := w + 3) hM (nI_add w 4) rfl (nI_add w 3) (by omega) (by omega) (by omega) (by exact hI.1) hpb.2 ((f1 w (by omega)).trans hX) ((f1 (w + 3) (by omega)).trans hY) (by omega) (fun G2 J2 q2 f2 => ?_)
  refine x_timesk (d := d) (r := w + 4) (a := w + 4) (b := w + 2) hM hI hk (nI_add w 4) (nI_add w 4) (nI_add w 2) (by omega) (by omega) (by omega) q2 ((f2 (w + 2) (by omega)).trans q1) (by omega) (fun G3 J3 q3 f3 => ?_)
  rw [mul_nm1] at q3
  have q13 : G3 (w + 2) = vE p D k (@nm (TR p D k) (TI p D k) ((p + 1) / 2) ((TI p D k).ofNat 1).ofNat) := (f3 (w + 2) (by omega)).trans ((f2 (w + 2) (by omega)).trans q1)
  generalize hS : @nm (TR p D k) (TI p D k) ((p + 1) / 2) ((TI p D k).add A Y) = S at q3
  have hSS : (TI p D k).add S S = (TI p D k).add A Y := by rw [← hS]; exact @nm_half (TR p D k) (TI p D k) p (@Fl.ch (TR p D k) (TI p D k) p (2 ^ k) hF) hodd _
  refine m_isSq (d := d) (a := w + 4) (k := k) hM hA (nI_add w 4) rfl (by omega) (by omega) hk q3 (by omega) (fun hs G4 J4 f4 => ?_) (fun hs G4 J4 f4 => ?_)
  · refine And.intro (fun _ => ?_) (fun hc => (ne1b hc).elim)
    exact ⟨rfl, hp G4 J4 S hSS (Or.inl ⟨hs, (f4 (w + 4) (by omega)).trans q3⟩) ((f4 (w + 2) (by omega)).trans q13) (fun s h1 h2 h3 => (f4 s h3).trans ((f3 s h2).trans ((f2 s h2).trans (f1 s h1))))⟩
  · refine And.intro (fun hc => (ne0b hc).elim) (fun _ => ?_)
    refine x_less (d := d) (r := w + 4) (a := w) (b := w + 3) hM (nI_add w 4) rfl (nI_add w 3) (by omega) (by omega) (by omega) (by exact hI.1) hpb.2 ((f4 w (by omega)).trans ((f3 w (by omega)).trans ((f2 w (by omega)).trans ((f1 w (by omega)).trans hX)))) ((f4 (w + 3) (by omega)).trans ((f3 (w + 3) (by omega)).trans ((f2 (w + 3) (by omega)).trans ((f1 (w + 3) (by omega)).trans hY)))) (by omega) (fun G5 J5 q5 f5 => ?_)
    refine x_timesk (d := d) (r := w + 4) (a := w + 4) (b := w + 2) hM hI hk (nI_add w 4) (nI_add w 4) (nI_add w 2) (by omega) (by omega) (by omega) q5 ((f5 (w + 2) (by omega)).trans ((f4 (w + 2) (by omega)).trans q13)) (by omega) (fun G6 J6 q6 f6 => ?_)
    rw [mul_nm1] at q6
    have e6 : @nm (TR p D k) (TI p D k) ((p + 1) / 2) ((TI p D k).sub A Y) = (TI p D k).sub A S := by
      have n1 := @nm_half (TR p D k) (TI p D k) p (@Fl.ch (TR p D k) (TI p D k) p (2 ^ k) hF) hodd ((TI p D k).sub A Y)
      have n2 : @nm (TR p D k) (TI p D k) ((p + 1) / 2) ((TI p D k).add A ((TI p D k).neg Y)) = (TI p D k).add (@nm (TR p D k) (TI p D k) ((p + 1) / 2) A) (@nm (TR p D k) (TI p D k) ((p + 1) / 2) ((TI p D k).neg Y)) := @nm_dist (TR p D k) (TI p D k) _ _ _
      generalize @nm (TR p D k) (TI p D k) ((p + 1) / 2) ((TI p D k).sub A Y) = Q at n1
      have hd0 := @Fl.dbl (TR p D k) (TI p D k) p (2 ^ k) hF ((TI p D k).sub Q ((TI p D k).sub A S))
      letI I9 := TI p D k
      have n1 : Q + Q = A - Y := n1
      have hSS : S + S = A + Y := hSS
      have hd0 : (Q - (A - S)) + (Q - (A - S)) = 0 → Q - (A - S) = 0 := hd0
      show Q = A - S
      have := hd0 (by grind)
      grind
    rw [e6] at q6
    exact ⟨rfl, hp G6 J6 S hSS (Or.inr ⟨hs, q6⟩) ((f6 (w + 2) (by omega)).trans ((f5 (w + 2) (by omega)).trans ((f4 (w + 2) (by omega)).trans q13))) (fun s h1 h2 h3 => (f6 s h2).trans ((f5 s h2).trans ((f4 s h3).trans ((f3 s h2).trans ((f2 s h2).trans (f1 s h1))))))⟩
theorem un_pair [NeZero p] : oV p D (k + 1) (un (2 ^ k)) = (((TI p D k).ofNat 0).ofNat, ((TI p D k).ofNat 1).ofNat) := by
  exact (un_up2 (p := p) (D := D) (h := k) (i := 0)).trans (Prod.ext rfl (oV_one (p := p) (D := D) k))
set_option maxHeartbeats 4000000 in
theorem m_rest [NeZero p] {w d' : Nat} {z1 z2 z3 : Int32} {U B : TR p D k} {post : Option Value → Me → Prop} (hM : MoM M m) (hA : MoA I m p h D) (hk : k + 1 ≤ h) (hz1 : z1 = nI r) (hz2 : z2 = nI w) (hz3 : z3 = nI (k + 1)) (hr : r < 64) (hr2 : r < w ∨ 37 ≤ r) (hw : w < 27) (hU : G (w + 5) = vE p D k U) (hB : G (w + 1) = vE p D k B) (hH : G (w + 2) = vE p D k (@nm (TR p D k) (TI p D k) ((p + 1) / 2) ((TI p D k).ofNat 1).ofNat)) (hU0 : ¬ U = ((TI p D k).ofNat 0).ofNat) (hd : d + 3 ≤ d') (hp : ∀ G1 J1 Z, @IsInv (TR p D k) (TI p D k) ((TI p D k).add U U) Z → G1 r = vE p D (k + 1) ((U, (TI p D k).mul B Z) : TR p D k × TR p D k) → (∀ s, s ≠ r → (s < w ∨ 37 ≤ s) → G1 s = G s) → post none (St M (rg I m G1) J1)) : Ok K d' 115 [.ref m, .int z1, .int z2, .int z3] (St M (rg I m G) J) post := by
  refine Ok.up (d := d + 3) (post := post) ?_ hd (fun _ _ h => h)
  subst hz1 hz2 hz3
  have hI := hA.1
  have hpb := hI.2.2.2.1
  have hodd := hA.2.2.2.2
  have hh3 := hI.2.2.1
  have hF := tw_Fl hA.2.2.2.1 hodd k (hA.2.2.1.le (show k ≤ h by omega))
  refine Ok.go (e := me_115) rfl rfl (Nat.le_of_ble_eq_true rfl) hM.c ?_
  refine Rf.go 200 [] ?_
  refine m_invertk (d := d) (r := w + 4) (a := w + 5) hM hA (show k ≤ h by omega) (nI_add w 4) (nI_add w 5) (by omega) (by omega) (by omega) hU (by omega) (fun G1 J1 q1 f1 => ?_)
  refine x_timesk (d := d) (r := w + 4) (a := w + 4) (b := w + 2) hM hI (show k ≤ h by omega) (nI_add w 4) (nI_add w 4) (nI_add w 2) (by omega) (by omega) (by omega) q1 ((f1 (w + 2) (by omega) (by omega)).trans hH) (by omega) (fun G2 J2 q2 f2 => ?_)
  refine x_timesk (d := d) (r := w + 4) (a := w + 4) (b := w + 1) hM hI (show k ≤ h by omega) (nI_add w 4) (nI_add w 4) (nI_add w 1) (by omega) (by omega) (by omega) q2 ((f2 (w + 1) (by omega)).trans ((f1 (w + 1) (by omega) (by omega)).trans hB)) (by omega) (fun G3 J3 q3 f3 => ?_)
  refine x_unit (d := d) (p := p) (D := D) (h := k + 1) (k := k) (r := w + 2) hM (nI_add w 2) rfl (by omega) (by omega) (by omega) (by omega) (by omega) (fun G4 J4 q4 f4 => ?_)
  rw [un_pair] at q4
  generalize hZ : (TI p D k).mul (iv p D k U) (@nm (TR p D k) (TI p D k) ((p + 1) / 2) ((TI p D k).ofNat 1).ofNat) = Z at q3
  have q3' : G4 (w + 4) = vE p D (k + 1) (((TI p D k).mul Z B, ((TI p D k).ofNat 0).ofNat) : TR p D k × TR p D k) := ((f4 (w + 4) (by omega)).trans q3).trans (vE_fst _).symm
  refine x_timesk (d := d) (r := w + 4) (a := w + 4) (b := w + 2) (k := k + 1) hM hI hk (nI_add w 4) (nI_add w 4) (nI_add w 2) (by omega) (by omega) (by omega) q3' q4 (by omega) (fun G5 J5 q5 f5 => ?_)
  have e5 : (TI p D (k + 1)).mul (((TI p D k).mul Z B, ((TI p D k).ofNat 0).ofNat) : TR p D k × TR p D k) ((((TI p D k).ofNat 0).ofNat, ((TI p D k).ofNat 1).ofNat) : TR p D k × TR p D k) = ((((TI p D k).ofNat 0).ofNat, (TI p D k).mul ((TI p D k).mul Z B) ((TI p D k).ofNat 1).ofNat) : TR p D k × TR p D k) := @qx_ab (TR p D k) (TI p D k) (oV p D k (D k)) ((TI p D k).mul Z B) ((TI p D k).ofNat 1).ofNat
  have q5 : G5 (w + 4) = vE p D (k + 1) ((TI p D (k + 1)).mul (((TI p D k).mul Z B, ((TI p D k).ofNat 0).ofNat) : TR p D k × TR p D k) ((((TI p D k).ofNat 0).ofNat, ((TI p D k).ofNat 1).ofNat) : TR p D k × TR p D k)) := q5
  rw [e5] at q5
  have qU : G5 (w + 5) = vE p D (k + 1) ((U, ((TI p D k).ofNat 0).ofNat) : TR p D k × TR p D k) := ((f5 (w + 5) (by omega)).trans ((f4 (w + 5) (by omega)).trans ((f3 (w + 5) (by omega)).trans ((f2 (w + 5) (by omega)).trans ((f1 (w + 5) (by omega) (by omega)).trans hU))))).trans (vE_fst _).symm
  refine x_add (d := d) (r := r) (a := w + 5) (b := w + 4) (h := k + 1) hM rfl (nI_add w 5) (nI_add w 4) hr (by omega) (by omega) (by exact hI.1) hpb.2 qU q5 (by omega) (fun G6 J6 q6 f6 => ?_)
  have e6 : (TI p D (k + 1)).add ((U, ((TI p D k).ofNat 0).ofNat) : TR p D k × TR p D k) ((((TI p D k).ofNat 0).ofNat, (TI p D k).mul ((TI p D k).mul Z B) ((TI p D k).ofNat 1).ofNat) : TR p D k × TR p D k) = ((U, (TI p D k).mul B Z) : TR p D k × TR p D k) := by
    letI I9 := TI p D k
    refine Prod.ext (show U + 0 = U by grind) (show (0 : TR p D k) + Z * B * 1 = B * Z by grind)
  rw [e6] at q6
  refine ⟨rfl, hp G6 J6 Z ?_ q6 (fun s h1 h2 => (f6 s h1).trans ((f5 s (by omega)).trans ((f4 s (by omega)).trans ((f3 s (by omega)).trans ((f2 s (by omega)).trans (f1 s (by omega) (by omega)))))))⟩
  obtain ⟨W, hW⟩ := @Fl.isInv (TR p D k) (TI p D k) p (2 ^ k) hF U
  rw [iv_is hW] at hZ
  have hU1 := hW.2 hU0
  have hh := @nm_half (TR p D k) (TI p D k) p (@Fl.ch (TR p D k) (TI p D k) p (2 ^ k) hF) hodd ((TI p D k).ofNat 1).ofNat
  generalize @nm (TR p D k) (TI p D k) ((p + 1) / 2) ((TI p D k).ofNat 1).ofNat = H at hZ hh
  have hdb := @Fl.dbl (TR p D k) (TI p D k) p (2 ^ k) hF U
  refine ⟨fun q => absurd (hdb q) hU0, fun _ => ?_⟩
  letI I9 := TI p D k
  have hZ : W * H = Z := hZ
  have hU1 : U * W = 1 := hU1
  have hh : H + H = 1 := hh
  show (U + U) * Z = 1
  rw [← hZ]
  have e9 : (U + U) * (W * H) = U * W * (H + H) := by grind
  rw [e9, hU1, hh]
  grind
set_option maxHeartbeats 4000000 in
theorem root1_ok [NeZero p] (hM : MoM M m) (hA : MoA I m p h D) (hk : 0 + 1 ≤ h) (ih : MRt K m p h M I D 0 110 37 2) : MRt K m p h M I D (0 + 1) 116 26 5 := by
  intro d d' G J r a z1 z2 X post hz1 hz2 hr ha fr fa hX hs hd hp
  refine Ok.up (d := d + 5) (post := post) ?_ hd (fun _ _ h => h)
  subst hz1 hz2
  have hI := hA.1
  have hpb := hI.2.2.2.1
  have hh3 := hI.2.2.1
  have hpr := hA.2.2.2.1
  have hodd := hA.2.2.2.2
  have hD := hA.2.2.1
  have hF := tw_Fl hpr hodd 0 (hD.le (show 0 ≤ h by omega))
  have hDk : ¬ @Sq (TR p D 0) (TI p D 0) (oV p D 0 (D 0)) := hD 0 hk
  have hsn := (@Sq_nrm (TR p D 0) (TI p D 0) p (2 ^ 0) hF (oV p D 0 (D 0)) hDk X).mp hs
  refine Ok.go (e := me_116) rfl rfl (Nat.le_of_ble_eq_true rfl) hM.c ?_
  refine Rf.go 200 [] ?_
  refine x_halves (d := d) (k := 0) (r := 26) (s := 27) (a := a) hM rfl rfl rfl rfl (by decide) (by decide) ha (by decide) (by omega) (by omega) (by decide) hX (by omega) (fun G1 J1 qL qH f1 => ?_)
  refine m_isZero (d := d) (a := 27) (h := 0) hM rfl (by decide) (by decide) hpb.2 qH (by omega) (fun hz => ?_) (fun hz => ?_)
  · have hXe : X = (X.1, ((TI p D 0).ofNat 0).ofNat) := Prod.ext rfl hz
    refine And.intro (fun hc => absurd hc (by decide)) (fun _ => ?_)
    refine m_isSq (d := d) (a := 26) (k := 0) hM hA rfl rfl (by decide) (by decide) (show 0 ≤ h by omega) qL (by omega) (fun hq G2 J2 f2 => ?_) (fun hq G2 J2 f2 => ?_)
    · refine And.intro (fun hc => absurd hc (by decide)) (fun _ => ?_)
      refine ih d _ G2 J2 r 26 _ _ X.1 _ rfl rfl hr (by decide) (by omega) (by decide) ((f2 26 (by decide)).trans qL) hq (by omega) (fun G3 J3 Y hY q3 f3 => ?_)
      refine ⟨rfl, hp G3 J3 ((Y, ((TI p D 0).ofNat 0).ofNat) : TR p D 0 × TR p D 0) ?_ (q3.trans (vE_fst Y).symm) (fun s h1 h2 => (f3 s h1 (by omega)).trans ((f2 s (by omega)).trans (f1 s (by omega) (by omega))))⟩
      refine (@qx_aa (TR p D 0) (TI p D 0) (oV p D 0 (D 0)) Y Y).trans ?_
      rw [hXe]
      exact Prod.ext hY rfl
    · refine And.intro (fun _ => ?_) (fun hc => absurd (by decide) hc)
      refine x_baseE (d := d) (r := 28) (a := 0) (v := vE p D 0 (oV p D 0 (D 0))) hM rfl rfl (by decide) (by decide) (fun j hj => hA.2.1 0 hk j hj) (by omega) (fun G3 J3 q3 f3 => ?_)
      refine m_invertk (d := d) (k := 0) (r := 28) (a := 28) hM hA (show 0 ≤ h by omega) rfl rfl (by decide) (by decide) (by decide) q3 (by omega) (fun G4 J4 q4 f4 => ?_)
      obtain ⟨Z, hZ⟩ := @Fl.isInv (TR p D 0) (TI p D 0) p (2 ^ 0) hF (oV p D 0 (D 0))
      rw [iv_is hZ] at q4
      obtain ⟨hsq, hmul⟩ := @root_lo (TR p D 0) (TI p D 0) p (2 ^ 0) hF _ _ _ hDk hq hZ
      refine x_timesk (d := d) (k := 0) (r := 26) (a := 26) (b := 28) hM hI (show 0 ≤ h by omega) rfl rfl rfl (by decide) (by decide) (by decide) ((f4 26 (by decide) (by decide)).trans ((f3 26 (by decide)).trans ((f2 26 (by decide)).trans qL))) q4 (by omega) (fun G5 J5 q5 f5 => ?_)
      refine ih d _ G5 J5 29 26 _ _ ((TI p D 0).mul X.1 Z) _ rfl rfl (by decide) (by decide) (by decide) (by decide) q5 hsq (by omega) (fun G6 J6 Y hY q6 f6 => ?_)
      refine x_unit (d := d) (p := p) (D := D) (h := 0 + 1) (k := 0) (r := 28) hM rfl rfl (by decide) (by decide) (by decide) (by omega) (by omega) (fun G7 J7 q7 f7 => ?_)
      rw [un_pair] at q7
      have q6' : G7 29 = vE p D (0 + 1) ((Y, ((TI p D 0).ofNat 0).ofNat) : TR p D 0 × TR p D 0) := ((f7 29 (by decide)).trans q6).trans (vE_fst Y).symm
      refine x_timesk (d := d) (k := 0 + 1) (r := r) (a := 29) (b := 28) hM hI hk rfl rfl rfl hr (by decide) (by decide) q6' q7 (by omega) (fun G8 J8 q8 f8 => ?_)
      have e8 : (TI p D (0 + 1)).mul ((Y, ((TI p D 0).ofNat 0).ofNat) : TR p D 0 × TR p D 0) ((((TI p D 0).ofNat 0).ofNat, ((TI p D 0).ofNat 1).ofNat) : TR p D 0 × TR p D 0) = ((((TI p D 0).ofNat 0).ofNat, Y) : TR p D 0 × TR p D 0) := (@qx_ab (TR p D 0) (TI p D 0) (oV p D 0 (D 0)) Y ((TI p D 0).ofNat 1).ofNat).trans (Prod.ext rfl ((TI p D 0).mul_one Y))
      have q8 : G8 r = vE p D (0 + 1) ((TI p D (0 + 1)).mul ((Y, ((TI p D 0).ofNat 0).ofNat) : TR p D 0 × TR p D 0) ((((TI p D 0).ofNat 0).ofNat, ((TI p D 0).ofNat 1).ofNat) : TR p D 0 × TR p D 0)) := q8
      rw [e8] at q8
      refine ⟨rfl, hp G8 J8 ((((TI p D 0).ofNat 0).ofNat, Y) : TR p D 0 × TR p D 0) ?_ q8 (fun s h1 h2 => (f8 s h1).trans ((f7 s (by omega)).trans ((f6 s (by omega) (by omega)).trans ((f5 s (by omega)).trans ((f4 s (by omega) (by omega)).trans ((f3 s (by omega)).trans ((f2 s (by omega)).trans (f1 s (by omega) (by omega)))))))))⟩
      refine (@qx_bb (TR p D 0) (TI p D 0) (oV p D 0 (D 0)) Y Y).trans ?_
      rw [hXe]
      exact Prod.ext ((congrArg (fun w => (TI p D 0).mul w (oV p D 0 (D 0))) hY).trans hmul) rfl
  · refine And.intro (fun _ => ?_) (fun hc => absurd (by decide) hc)
    have qa1 : G1 a = vE p D (0 + 1) X := (f1 a (by omega) (by omega)).trans hX
    refine x_other (d := d) (k := 0) (r := 28) (a := a) hM rfl rfl rfl (by decide) ha (by decide) (by exact hI.1) hpb.2 qa1 (by omega) (fun G2 J2 q2 f2 => ?_)
    refine x_timesk (d := d) (k := 0 + 1) (r := 28) (a := a) (b := 28) (X := X) (Y := ((X.1, (TI p D 0).neg X.2) : TR p D 0 × TR p D 0)) hM hI hk rfl rfl rfl (by decide) ha (by decide) ((f2 a (by omega)).trans qa1) q2 (by omega) (fun G3 J3 q3 f3 => ?_)
    have q3 : G3 28 = vE p D (0 + 1) ((TI p D (0 + 1)).mul X ((X.1, (TI p D 0).neg X.2) : TR p D 0 × TR p D 0)) := q3
    rw [en_nrm, vE_fst] at q3
    refine ih d _ G3 J3 29 28 _ _ _ _ rfl rfl (by decide) (by decide) (by decide) (by decide) q3 hsn (by omega) (fun G4 J4 Y hY q4 f4 => ?_)
    have g4 : ∀ s, s ≠ 28 → s ≠ 29 → (s < 37 ∨ 37 ≤ s) → G4 s = G1 s := fun s h1 h2 h3 => (f4 s h2 h3).trans ((f3 s h1).trans (f2 s h1))
    refine m_half (d := d) (k := 0) (w := 26) (A := X.1) (Y := Y) hM hA (show 0 ≤ h by omega) rfl rfl (by decide) ((g4 26 (by decide) (by decide) (by decide)).trans qL) q4 (by omega) (fun G5 J5 S hSS hcs qh f5 => ?_)
    obtain ⟨hS0, hT0, hor, he4⟩ := @root_hi1 (TR p D 0) (TI p D 0) p (2 ^ 0) hF (oV p D 0 (D 0)) X.1 X.2 Y S hDk hz hY hSS
    have hH5 : G5 27 = vE p D 0 X.2 := (f5 27 (by decide) (by decide) (by decide)).trans ((g4 27 (by decide) (by decide) (by decide)).trans qH)
    have hex : ∃ T, @Sq (TR p D 0) (TI p D 0) T ∧ G5 30 = vE p D 0 T ∧ ¬ T = ((TI p D 0).ofNat 0).ofNat ∧ (TI p D 0).mul ((TI p D 0).mul ((TI p D 0).add ((TI p D 0).ofNat 1).ofNat ((TI p D 0).ofNat 1).ofNat) ((TI p D 0).add ((TI p D 0).ofNat 1).ofNat ((TI p D 0).ofNat 1).ofNat)) ((TI p D 0).mul T ((TI p D 0).sub X.1 T)) = (TI p D 0).mul ((TI p D 0).mul X.2 X.2) (oV p D 0 (D 0)) := by
      rcases hcs with ⟨hq, hg⟩ | ⟨hq, hg⟩
      · exact ⟨S, hq, hg, hS0, he4⟩
      · refine ⟨(TI p D 0).sub X.1 S, hor.resolve_left hq, hg, hT0, Eq.trans ?_ he4⟩
        exact @alg1 (TR p D 0) (TI p D 0) X.1 S
    obtain ⟨T, hTq, hTg, hTn, hTe⟩ := hex
    refine ih d _ G5 J5 31 30 _ _ T _ rfl rfl (by decide) (by decide) (by decide) (by decide) hTg hTq (by omega) (fun G6 J6 U hU q6 f6 => ?_)
    have hU0 : ¬ U = ((TI p D 0).ofNat 0).ofNat := fun q => hTn (by
      rw [← hU, q]
      exact (TI p D 0).zero_mul _)
    refine m_rest (d := d) (k := 0) (w := 26) (r := r) (U := U) (B := X.2) hM hA hk rfl rfl rfl hr fr (by decide) q6 ((f6 27 (by decide) (by decide)).trans hH5) ((f6 28 (by decide) (by decide)).trans qh) hU0 (by omega) (fun G7 J7 Z hZ q7 f7 => ?_)
    refine ⟨rfl, hp G7 J7 ((U, (TI p D 0).mul X.2 Z) : TR p D 0 × TR p D 0) ?_ q7 (fun s h1 h2 => (f7 s h1 h2).trans ((f6 s (by omega) (by omega)).trans ((f5 s (by omega) (by omega) (by omega)).trans ((g4 s (by omega) (by omega) (by omega)).trans (f1 s (by omega) (by omega))))))⟩
    exact @root_hi2 (TR p D 0) (TI p D 0) (oV p D 0 (D 0)) X.1 X.2 T U Z hTn hTe hU hZ (fun q => @Fl.dbl (TR p D 0) (TI p D 0) p (2 ^ 0) hF U q)
set_option maxHeartbeats 4000000 in
theorem root2_ok [NeZero p] (hM : MoM M m) (hA : MoA I m p h D) (hk : 1 + 1 ≤ h) (ih : MRt K m p h M I D 1 116 26 5) : MRt K m p h M I D (1 + 1) 117 20 6 := by
  intro d d' G J r a z1 z2 X post hz1 hz2 hr ha fr fa hX hs hd hp
  refine Ok.up (d := d + 6) (post := post) ?_ hd (fun _ _ h => h)
  subst hz1 hz2
  have hI := hA.1
  have hpb := hI.2.2.2.1
  have hh3 := hI.2.2.1
  have hpr := hA.2.2.2.1
  have hodd := hA.2.2.2.2
  have hD := hA.2.2.1
  have hF := tw_Fl hpr hodd 1 (hD.le (show 1 ≤ h by omega))
  have hDk : ¬ @Sq (TR p D 1) (TI p D 1) (oV p D 1 (D 1)) := hD 1 hk
  have hsn := (@Sq_nrm (TR p D 1) (TI p D 1) p (2 ^ 1) hF (oV p D 1 (D 1)) hDk X).mp hs
  refine Ok.go (e := me_117) rfl rfl (Nat.le_of_ble_eq_true rfl) hM.c ?_
  refine Rf.go 200 [] ?_
  refine x_halves (d := d) (k := 1) (r := 20) (s := 21) (a := a) hM rfl rfl rfl rfl (by decide) (by decide) ha (by decide) (by omega) (by omega) (by decide) hX (by omega) (fun G1 J1 qL qH f1 => ?_)
  refine m_isZero (d := d) (a := 21) (h := 1) hM rfl (by decide) (by decide) hpb.2 qH (by omega) (fun hz => ?_) (fun hz => ?_)
  · have hXe : X = (X.1, ((TI p D 1).ofNat 0).ofNat) := Prod.ext rfl hz
    refine And.intro (fun hc => absurd hc (by decide)) (fun _ => ?_)
    refine m_isSq (d := d) (a := 20) (k := 1) hM hA rfl rfl (by decide) (by decide) (show 1 ≤ h by omega) qL (by omega) (fun hq G2 J2 f2 => ?_) (fun hq G2 J2 f2 => ?_)
    · refine And.intro (fun hc => absurd hc (by decide)) (fun _ => ?_)
      refine ih d _ G2 J2 r 20 _ _ X.1 _ rfl rfl hr (by decide) (by omega) (by decide) ((f2 20 (by decide)).trans qL) hq (by omega) (fun G3 J3 Y hY q3 f3 => ?_)
      refine ⟨rfl, hp G3 J3 ((Y, ((TI p D 1).ofNat 0).ofNat) : TR p D 1 × TR p D 1) ?_ (q3.trans (vE_fst Y).symm) (fun s h1 h2 => (f3 s h1 (by omega)).trans ((f2 s (by omega)).trans (f1 s (by omega) (by omega))))⟩
      refine (@qx_aa (TR p D 1) (TI p D 1) (oV p D 1 (D 1)) Y Y).trans ?_
      rw [hXe]
      exact Prod.ext hY rfl
    · refine And.intro (fun _ => ?_) (fun hc => absurd (by decide) hc)
      refine x_baseE (d := d) (r := 22) (a := 1) (v := vE p D 1 (oV p D 1 (D 1))) hM rfl rfl (by decide) (by decide) (fun j hj => hA.2.1 1 hk j hj) (by omega) (fun G3 J3 q3 f3 => ?_)
      refine m_invertk (d := d) (k := 1) (r := 22) (a := 22) hM hA (show 1 ≤ h by omega) rfl rfl (by decide) (by decide) (by decide) q3 (by omega) (fun G4 J4 q4 f4 => ?_)
      obtain ⟨Z, hZ⟩ := @Fl.isInv (TR p D 1) (TI p D 1) p (2 ^ 1) hF (oV p D 1 (D 1))
      rw [iv_is hZ] at q4
      obtain ⟨hsq, hmul⟩ := @root_lo (TR p D 1) (TI p D 1) p (2 ^ 1) hF _ _ _ hDk hq hZ
      refine x_timesk (d := d) (k := 1) (r := 20) (a := 20) (b := 22) hM hI (show 1 ≤ h by omega) rfl rfl rfl (by decide) (by decide) (by decide) ((f4 20 (by decide) (by decide)).trans ((f3 20 (by decide)).trans ((f2 20 (by decide)).trans qL))) q4 (by omega) (fun G5 J5 q5 f5 => ?_)
      refine ih d _ G5 J5 23 20 _ _ ((TI p D 1).mul X.1 Z) _ rfl rfl (by decide) (by decide) (by decide) (by decide) q5 hsq (by omega) (fun G6 J6 Y hY q6 f6 => ?_)
      refine x_unit (d := d) (p := p) (D := D) (h := 1 + 1) (k := 1) (r := 22) hM rfl rfl (by decide) (by decide) (by decide) (by omega) (by omega) (fun G7 J7 q7 f7 => ?_)
      rw [un_pair] at q7
      have q6' : G7 23 = vE p D (1 + 1) ((Y, ((TI p D 1).ofNat 0).ofNat) : TR p D 1 × TR p D 1) := ((f7 23 (by decide)).trans q6).trans (vE_fst Y).symm
      refine x_timesk (d := d) (k := 1 + 1) (r := r) (a := 23) (b := 22) hM hI hk rfl rfl rfl hr (by decide) (by decide) q6' q7 (by omega) (fun G8 J8 q8 f8 => ?_)
      have e8 : (TI p D (1 + 1)).mul ((Y, ((TI p D 1).ofNat 0).ofNat) : TR p D 1 × TR p D 1) ((((TI p D 1).ofNat 0).ofNat, ((TI p D 1).ofNat 1).ofNat) : TR p D 1 × TR p D 1) = ((((TI p D 1).ofNat 0).ofNat, Y) : TR p D 1 × TR p D 1) := (@qx_ab (TR p D 1) (TI p D 1) (oV p D 1 (D 1)) Y ((TI p D 1).ofNat 1).ofNat).trans (Prod.ext rfl ((TI p D 1).mul_one Y))
      have q8 : G8 r = vE p D (1 + 1) ((TI p D (1 + 1)).mul ((Y, ((TI p D 1).ofNat 0).ofNat) : TR p D 1 × TR p D 1) ((((TI p D 1).ofNat 0).ofNat, ((TI p D 1).ofNat 1).ofNat) : TR p D 1 × TR p D 1)) := q8
      rw [e8] at q8
      refine ⟨rfl, hp G8 J8 ((((TI p D 1).ofNat 0).ofNat, Y) : TR p D 1 × TR p D 1) ?_ q8 (fun s h1 h2 => (f8 s h1).trans ((f7 s (by omega)).trans ((f6 s (by omega) (by omega)).trans ((f5 s (by omega)).trans ((f4 s (by omega) (by omega)).trans ((f3 s (by omega)).trans ((f2 s (by omega)).trans (f1 s (by omega) (by omega)))))))))⟩
      refine (@qx_bb (TR p D 1) (TI p D 1) (oV p D 1 (D 1)) Y Y).trans ?_
      rw [hXe]
      exact Prod.ext ((congrArg (fun w => (TI p D 1).mul w (oV p D 1 (D 1))) hY).trans hmul) rfl
  · refine And.intro (fun _ => ?_) (fun hc => absurd (by decide) hc)
    have qa1 : G1 a = vE p D (1 + 1) X := (f1 a (by omega) (by omega)).trans hX
    refine x_other (d := d) (k := 1) (r := 22) (a := a) hM rfl rfl rfl (by decide) ha (by decide) (by exact hI.1) hpb.2 qa1 (by omega) (fun G2 J2 q2 f2 => ?_)
    refine x_timesk (d := d) (k := 1 + 1) (r := 22) (a := a) (b := 22) (X := X) (Y := ((X.1, (TI p D 1).neg X.2) : TR p D 1 × TR p D 1)) hM hI hk rfl rfl rfl (by decide) ha (by decide) ((f2 a (by omega)).trans qa1) q2 (by omega) (fun G3 J3 q3 f3 => ?_)
    have q3 : G3 22 = vE p D (1 + 1) ((TI p D (1 + 1)).mul X ((X.1, (TI p D 1).neg X.2) : TR p D 1 × TR p D 1)) := q3
    rw [en_nrm, vE_fst] at q3
    refine ih d _ G3 J3 23 22 _ _ _ _ rfl rfl (by decide) (by decide) (by decide) (by decide) q3 hsn (by omega) (fun G4 J4 Y hY q4 f4 => ?_)
    have g4 : ∀ s, s ≠ 22 → s ≠ 23 → (s < 26 ∨ 37 ≤ s) → G4 s = G1 s := fun s h1 h2 h3 => (f4 s h2 h3).trans ((f3 s h1).trans (f2 s h1))
    refine m_half (d := d) (k := 1) (w := 20) (A := X.1) (Y := Y) hM hA (show 1 ≤ h by omega) rfl rfl (by decide) ((g4 20 (by decide) (by decide) (by decide)).trans qL) q4 (by omega) (fun G5 J5 S hSS hcs qh f5 => ?_)
    obtain ⟨hS0, hT0, hor, he4⟩ := @root_hi1 (TR p D 1) (TI p D 1) p (2 ^ 1) hF (oV p D 1 (D 1)) X.1 X.2 Y S hDk hz hY hSS
    have hH5 : G5 21 = vE p D 1 X.2 := (f5 21 (by decide) (by decide) (by decide)).trans ((g4 21 (by decide) (by decide) (by decide)).trans qH)
    have hex : ∃ T, @Sq (TR p D 1) (TI p D 1) T ∧ G5 24 = vE p D 1 T ∧ ¬ T = ((TI p D 1).ofNat 0).ofNat ∧ (TI p D 1).mul ((TI p D 1).mul ((TI p D 1).add ((TI p D 1).ofNat 1).ofNat ((TI p D 1).ofNat 1).ofNat) ((TI p D 1).add ((TI p D 1).ofNat 1).ofNat ((TI p D 1).ofNat 1).ofNat)) ((TI p D 1).mul T ((TI p D 1).sub X.1 T)) = (TI p D 1).mul ((TI p D 1).mul X.2 X.2) (oV p D 1 (D 1)) := by
      rcases hcs with ⟨hq, hg⟩ | ⟨hq, hg⟩
      · exact ⟨S, hq, hg, hS0, he4⟩
      · refine ⟨(TI p D 1).sub X.1 S, hor.resolve_left hq, hg, hT0, Eq.trans ?_ he4⟩
        exact @alg1 (TR p D 1) (TI p D 1) X.1 S
    obtain ⟨T, hTq, hTg, hTn, hTe⟩ := hex
    refine ih d _ G5 J5 25 24 _ _ T _ rfl rfl (by decide) (by decide) (by decide) (by decide) hTg hTq (by omega) (fun G6 J6 U hU q6 f6 => ?_)
    have hU0 : ¬ U = ((TI p D 1).ofNat 0).ofNat := fun q => hTn (by
      rw [← hU, q]
      exact (TI p D 1).zero_mul _)
    refine m_rest (d := d) (k := 1) (w := 20) (r := r) (U := U) (B := X.2) hM hA hk rfl rfl rfl hr fr (by decide) q6 ((f6 21 (by decide) (by decide)).trans hH5) ((f6 22 (by decide) (by decide)).trans qh) hU0 (by omega) (fun G7 J7 Z hZ q7 f7 => ?_)
    refine ⟨rfl, hp G7 J7 ((U, (TI p D 1).mul X.2 Z) : TR p D 1 × TR p D 1) ?_ q7 (fun s h1 h2 => (f7 s h1 h2).trans ((f6 s (by omega) (by omega)).trans ((f5 s (by omega) (by omega) (by omega)).trans ((g4 s (by omega) (by omega) (by omega)).trans (f1 s (by omega) (by omega))))))⟩
    exact @root_hi2 (TR p D 1) (TI p D 1) (oV p D 1 (D 1)) X.1 X.2 T U Z hTn hTe hU hZ (fun q => @Fl.dbl (TR p D 1) (TI p D 1) p (2 ^ 1) hF U q)
set_option maxHeartbeats 4000000 in
theorem root3_ok [NeZero p] (hM : MoM M m) (hA : MoA I m p h D) (hk : 2 + 1 ≤ h) (ih : MRt K m p h M I D 2 117 20 6) : MRt K m p h M I D (2 + 1) 118 14 7 := by
  intro d d' G J r a z1 z2 X post hz1 hz2 hr ha fr fa hX hs hd hp
  refine Ok.up (d := d + 7) (post := post) ?_ hd (fun _ _ h => h)
  subst hz1 hz2
  have hI := hA.1
  have hpb := hI.2.2.2.1
  have hh3 := hI.2.2.1
  have hpr := hA.2.2.2.1
  have hodd := hA.2.2.2.2
  have hD := hA.2.2.1
  have hF := tw_Fl hpr hodd 2 (hD.le (show 2 ≤ h by omega))
  have hDk : ¬ @Sq (TR p D 2) (TI p D 2) (oV p D 2 (D 2)) := hD 2 hk
  have hsn := (@Sq_nrm (TR p D 2) (TI p D 2) p (2 ^ 2) hF (oV p D 2 (D 2)) hDk X).mp hs
  refine Ok.go (e := me_118) rfl rfl (Nat.le_of_ble_eq_true rfl) hM.c ?_
  refine Rf.go 200 [] ?_
  refine x_halves (d := d) (k := 2) (r := 14) (s := 15) (a := a) hM rfl rfl rfl rfl (by decide) (by decide) ha (by decide) (by omega) (by omega) (by decide) hX (by omega) (fun G1 J1 qL qH f1 => ?_)
  refine m_isZero (d := d) (a := 15) (h := 2) hM rfl (by decide) (by decide) hpb.2 qH (by omega) (fun hz => ?_) (fun hz => ?_)
  · have hXe : X = (X.1, ((TI p D 2).ofNat 0).ofNat) := Prod.ext rfl hz
    refine And.intro (fun hc => absurd hc (by decide)) (fun _ => ?_)
    refine m_isSq (d := d) (a := 14) (k := 2) hM hA rfl rfl (by decide) (by decide) (show 2 ≤ h by omega) qL (by omega) (fun hq G2 J2 f2 => ?_) (fun hq G2 J2 f2 => ?_)
    · refine And.intro (fun hc => absurd hc (by decide)) (fun _ => ?_)
      refine ih d _ G2 J2 r 14 _ _ X.1 _ rfl rfl hr (by decide) (by omega) (by decide) ((f2 14 (by decide)).trans qL) hq (by omega) (fun G3 J3 Y hY q3 f3 => ?_)
      refine ⟨rfl, hp G3 J3 ((Y, ((TI p D 2).ofNat 0).ofNat) : TR p D 2 × TR p D 2) ?_ (q3.trans (vE_fst Y).symm) (fun s h1 h2 => (f3 s h1 (by omega)).trans ((f2 s (by omega)).trans (f1 s (by omega) (by omega))))⟩
      refine (@qx_aa (TR p D 2) (TI p D 2) (oV p D 2 (D 2)) Y Y).trans ?_
      rw [hXe]
      exact Prod.ext hY rfl
    · refine And.intro (fun _ => ?_) (fun hc => absurd (by decide) hc)
      refine x_baseE (d := d) (r := 16) (a := 2) (v := vE p D 2 (oV p D 2 (D 2))) hM rfl rfl (by decide) (by decide) (fun j hj => hA.2.1 2 hk j hj) (by omega) (fun G3 J3 q3 f3 => ?_)
      refine m_invertk (d := d) (k := 2) (r := 16) (a := 16) hM hA (show 2 ≤ h by omega) rfl rfl (by decide) (by decide) (by decide) q3 (by omega) (fun G4 J4 q4 f4 => ?_)
      obtain ⟨Z, hZ⟩ := @Fl.isInv (TR p D 2) (TI p D 2) p (2 ^ 2) hF (oV p D 2 (D 2))
      rw [iv_is hZ] at q4
      obtain ⟨hsq, hmul⟩ := @root_lo (TR p D 2) (TI p D 2) p (2 ^ 2) hF _ _ _ hDk hq hZ
      refine x_timesk (d := d) (k := 2) (r := 14) (a := 14) (b := 16) hM hI (show 2 ≤ h by omega) rfl rfl rfl (by decide) (by decide) (by decide) ((f4 14 (by decide) (by decide)).trans ((f3 14 (by decide)).trans ((f2 14 (by decide)).trans qL))) q4 (by omega) (fun G5 J5 q5 f5 => ?_)
      refine ih d _ G5 J5 17 14 _ _ ((TI p D 2).mul X.1 Z) _ rfl rfl (by decide) (by decide) (by decide) (by decide) q5 hsq (by omega) (fun G6 J6 Y hY q6 f6 => ?_)
      refine x_unit (d := d) (p := p) (D := D) (h := 2 + 1) (k := 2) (r := 16) hM rfl rfl (by decide) (by decide) (by decide) (by omega) (by omega) (fun G7 J7 q7 f7 => ?_)
      rw [un_pair] at q7
      have q6' : G7 17 = vE p D (2 + 1) ((Y, ((TI p D 2).ofNat 0).ofNat) : TR p D 2 × TR p D 2) := ((f7 17 (by decide)).trans q6).trans (vE_fst Y).symm
      refine x_timesk (d := d) (k := 2 + 1) (r := r) (a := 17) (b := 16) hM hI hk rfl rfl rfl hr (by decide) (by decide) q6' q7 (by omega) (fun G8 J8 q8 f8 => ?_)
      have e8 : (TI p D (2 + 1)).mul ((Y, ((TI p D 2).ofNat 0).ofNat) : TR p D 2 × TR p D 2) ((((TI p D 2).ofNat 0).ofNat, ((TI p D 2).ofNat 1).ofNat) : TR p D 2 × TR p D 2) = ((((TI p D 2).ofNat 0).ofNat, Y) : TR p D 2 × TR p D 2) := (@qx_ab (TR p D 2) (TI p D 2) (oV p D 2 (D 2)) Y ((TI p D 2).ofNat 1).ofNat).trans (Prod.ext rfl ((TI p D 2).mul_one Y))
      have q8 : G8 r = vE p D (2 + 1) ((TI p D (2 + 1)).mul ((Y, ((TI p D 2).ofNat 0).ofNat) : TR p D 2 × TR p D 2) ((((TI p D 2).ofNat 0).ofNat, ((TI p D 2).ofNat 1).ofNat) : TR p D 2 × TR p D 2)) := q8
      rw [e8] at q8
      refine ⟨rfl, hp G8 J8 ((((TI p D 2).ofNat 0).ofNat, Y) : TR p D 2 × TR p D 2) ?_ q8 (fun s h1 h2 => (f8 s h1).trans ((f7 s (by omega)).trans ((f6 s (by omega) (by omega)).trans ((f5 s (by omega)).trans ((f4 s (by omega) (by omega)).trans ((f3 s (by omega)).trans ((f2 s (by omega)).trans (f1 s (by omega) (by omega)))))))))⟩
      refine (@qx_bb (TR p D 2) (TI p D 2) (oV p D 2 (D 2)) Y Y).trans ?_
      rw [hXe]
      exact Prod.ext ((congrArg (fun w => (TI p D 2).mul w (oV p D 2 (D 2))) hY).trans hmul) rfl
  · refine And.intro (fun _ => ?_) (fun hc => absurd (by decide) hc)
    have qa1 : G1 a = vE p D (2 + 1) X := (f1 a (by omega) (by omega)).trans hX
    refine x_other (d := d) (k := 2) (r := 16) (a := a) hM rfl rfl rfl (by decide) ha (by decide) (by exact hI.1) hpb.2 qa1 (by omega) (fun G2 J2 q2 f2 => ?_)
    refine x_timesk (d := d) (k := 2 + 1) (r := 16) (a := a) (b := 16) (X := X) (Y := ((X.1, (TI p D 2).neg X.2) : TR p D 2 × TR p D 2)) hM hI hk rfl rfl rfl (by decide) ha (by decide) ((f2 a (by omega)).trans qa1) q2 (by omega) (fun G3 J3 q3 f3 => ?_)
    have q3 : G3 16 = vE p D (2 + 1) ((TI p D (2 + 1)).mul X ((X.1, (TI p D 2).neg X.2) : TR p D 2 × TR p D 2)) := q3
    rw [en_nrm, vE_fst] at q3
    refine ih d _ G3 J3 17 16 _ _ _ _ rfl rfl (by decide) (by decide) (by decide) (by decide) q3 hsn (by omega) (fun G4 J4 Y hY q4 f4 => ?_)
    have g4 : ∀ s, s ≠ 16 → s ≠ 17 → (s < 20 ∨ 37 ≤ s) → G4 s = G1 s := fun s h1 h2 h3 => (f4 s h2 h3).trans ((f3 s h1).trans (f2 s h1))
    refine m_half (d := d) (k := 2) (w := 14) (A := X.1) (Y := Y) hM hA (show 2 ≤ h by omega) rfl rfl (by decide) ((g4 14 (by decide) (by decide) (by decide)).trans qL) q4 (by omega) (fun G5 J5 S hSS hcs qh f5 => ?_)
    obtain ⟨hS0, hT0, hor, he4⟩ := @root_hi1 (TR p D 2) (TI p D 2) p (2 ^ 2) hF (oV p D 2 (D 2)) X.1 X.2 Y S hDk hz hY hSS
    have hH5 : G5 15 = vE p D 2 X.2 := (f5 15 (by decide) (by decide) (by decide)).trans ((g4 15 (by decide) (by decide) (by decide)).trans qH)
    have hex : ∃ T, @Sq (TR p D 2) (TI p D 2) T ∧ G5 18 = vE p D 2 T ∧ ¬ T = ((TI p D 2).ofNat 0).ofNat ∧ (TI p D 2).mul ((TI p D 2).mul ((TI p D 2).add ((TI p D 2).ofNat 1).ofNat ((TI p D 2).ofNat 1).ofNat) ((TI p D 2).add ((TI p D 2).ofNat 1).ofNat ((TI p D 2).ofNat 1).ofNat)) ((TI p D 2).mul T ((TI p D 2).sub X.1 T)) = (TI p D 2).mul ((TI p D 2).mul X.2 X.2) (oV p D 2 (D 2)) := by
      rcases hcs with ⟨hq, hg⟩ | ⟨hq, hg⟩
      · exact ⟨S, hq, hg, hS0, he4⟩
      · refine ⟨(TI p D 2).sub X.1 S, hor.resolve_left hq, hg, hT0, Eq.trans ?_ he4⟩
        exact @alg1 (TR p D 2) (TI p D 2) X.1 S
    obtain ⟨T, hTq, hTg, hTn, hTe⟩ := hex
    refine ih d _ G5 J5 19 18 _ _ T _ rfl rfl (by decide) (by decide) (by decide) (by decide) hTg hTq (by omega) (fun G6 J6 U hU q6 f6 => ?_)
    have hU0 : ¬ U = ((TI p D 2).ofNat 0).ofNat := fun q => hTn (by
      rw [← hU, q]
      exact (TI p D 2).zero_mul _)
    refine m_rest (d := d) (k := 2) (w := 14) (r := r) (U := U) (B := X.2) hM hA hk rfl rfl rfl hr fr (by decide) q6 ((f6 15 (by decide) (by decide)).trans hH5) ((f6 16 (by decide) (by decide)).trans qh) hU0 (by omega) (fun G7 J7 Z hZ q7 f7 => ?_)
    refine ⟨rfl, hp G7 J7 ((U, (TI p D 2).mul X.2 Z) : TR p D 2 × TR p D 2) ?_ q7 (fun s h1 h2 => (f7 s h1 h2).trans ((f6 s (by omega) (by omega)).trans ((f5 s (by omega) (by omega) (by omega)).trans ((g4 s (by omega) (by omega) (by omega)).trans (f1 s (by omega) (by omega))))))⟩
    exact @root_hi2 (TR p D 2) (TI p D 2) (oV p D 2 (D 2)) X.1 X.2 T U Z hTn hTe hU hZ (fun q => @Fl.dbl (TR p D 2) (TI p D 2) p (2 ^ 2) hF U q)
end Mr
