/-! The model's root, growth -/
section Mg
variable {K : Ka} {d m p h r a b k : Nat} {M : Me} {I : Nat → Nat → Int32} {J : Nat → Nat → Int64} {D E : Nat → Nat → Nat} {G : Nat → Nat → Int32}
theorem rg_u2 {c j : Nat} {x : Int32} (hc : c ≠ m + 11) : u2 (rg I m G) c j x = rg (u2 I c j x) m G := by
  funext q
  unfold u2 rg
  by_cases e : q = c
  · rw [if_pos e, if_neg hc, if_neg (by omega)]
    exact (if_pos e).symm
  · rw [if_neg e]
    by_cases e2 : q = m + 11
    · rw [if_pos e2, if_pos e2]
    · rw [if_neg e2, if_neg e2]
      exact (if_neg e).symm
theorem roots_ok [NeZero p] (hM : MoM M m) (hA : MoA I m p h D) (d d' : Nat) (r a : Nat) (z2 : Int32) (X : TR p D h) (post : Option Value → Me → Prop) (hz2 : z2 = nI a) (ha : a < 64) (fa : a < 14 ∨ 37 ≤ a) (hX : G a = vE p D h X) (hs : @Sq (TR p D h) (TI p D h) X) (hd : d + 7 ≤ d') (hp : ∀ G1 J1 Y, (TI p D h).mul Y Y = X → G1 44 = vE p D h Y → (∀ s, s ≠ 44 → (s < 14 ∨ 37 ≤ s) → G1 s = G s) → post none (St M (rg I m G1) J1)) : Ok K d' (if h = 0 then 110 else if h = 1 then 116 else if h = 2 then 117 else 118) [.ref m, .int (Int32.ofInt 44), .int z2] (St M (rg I m G) J) post := by
  have h3 := hA.1.2.2.1
  rcases (show h = 0 ∨ h = 1 ∨ h = 2 ∨ h = 3 by omega) with rfl | rfl | rfl | rfl
  · exact root0_ok hM hA d d' G J 44 a _ z2 X post rfl hz2 (by decide) ha (by decide) (by omega) hX hs (by omega) (fun G1 J1 Y h1 h2 h3 => hp G1 J1 Y h1 h2 (fun s q1 q2 => h3 s q1 (by omega)))
  · exact root1_ok hM hA (by omega) (root0_ok hM hA) d d' G J 44 a _ z2 X post rfl hz2 (by decide) ha (by decide) (by omega) hX hs (by omega) (fun G1 J1 Y h1 h2 h3 => hp G1 J1 Y h1 h2 (fun s q1 q2 => h3 s q1 (by omega)))
  · exact root2_ok hM hA (by omega) (root1_ok hM hA (by omega) (root0_ok hM hA)) d d' G J 44 a _ z2 X post rfl hz2 (by decide) ha (by decide) (by omega) hX hs (by omega) (fun G1 J1 Y h1 h2 h3 => hp G1 J1 Y h1 h2 (fun s q1 q2 => h3 s q1 (by omega)))
  · exact root3_ok hM hA (by omega) (root2_ok hM hA (by omega) (root1_ok hM hA (by omega) (root0_ok hM hA))) d d' G J 44 a _ z2 X post rfl hz2 (by decide) ha (by decide) (by omega) hX hs (by omega) (fun G1 J1 Y h1 h2 h3 => hp G1 J1 Y h1 h2 (fun s q1 q2 => h3 s q1 (by omega)))
theorem ng_eq {p y : Nat} (hodd : p % 2 = 1) (hy : y < p) : y = (p - y) % p ↔ y = 0 := by
  constructor
  · intro q
    apply Classical.byContradiction
    intro q2
    rw [Nat.mod_eq_of_lt (by omega)] at q
    omega
  · intro q
    rw [q, Nat.sub_zero, Nat.mod_self]
theorem ix352 {i : Nat} : Int32.ofInt 352 + nI i = nI (8 * 44 + i) := by rw [show Int32.ofInt 352 = nI 352 from rfl, nI_add]
theorem ix360 {i : Nat} : Int32.ofInt 360 + nI i = nI (8 * 45 + i) := by rw [show Int32.ofInt 360 = nI 360 from rfl, nI_add]
set_option maxHeartbeats 4000000 in
theorem m_root [NeZero p] {d' : Nat} {z1 z2 : Int32} {X : TR p D h} {post : Option Value → Me → Prop} (hM : MoM M m) (hA : MoA I m p h D) (hz1 : z1 = nI r) (hz2 : z2 = nI a) (hr : r < 64) (ha : a < 64) (fa : a < 14 ∨ 37 ≤ a) (hX : G a = vE p D h X) (hs : @Sq (TR p D h) (TI p D h) X) (hd : d + 8 ≤ d') (hp : ∀ G1 J1, G1 r = vE p D h (rtE p D h X) → (∀ s, s ≠ r → (s < 14 ∨ 37 ≤ s) → s ≠ 44 → s ≠ 45 → G1 s = G s) → post none (St M (rg I m G1) J1)) : Ok K d' 119 [.ref m, .int z1, .int z2] (St M (rg I m G) J) post := by
  refine Ok.up (d := d + 8) (post := post) ?_ hd (fun _ _ h => h)
  subst hz1 hz2
  have hI := hA.1
  have hpb := hI.2.2.2.1
  have hh3 := hI.2.2.1
  have hodd := hA.2.2.2.2
  refine Ok.go (e := me_119) rfl rfl (Nat.le_of_ble_eq_true rfl) hM.c ?_
  have tail : ∀ (G1 : Nat → Nat → Int32) (J1 : Nat → Nat → Int64) (Y : TR p D h), (TI p D h).mul Y Y = X → G1 44 = vE p D h Y → (∀ s, s ≠ 44 → (s < 14 ∨ 37 ≤ s) → G1 s = G s) → Rf K (d + 7) mc_119 30 (lk [(0, .ref m), (1, .int (nI r))]) [] (St M (rg I m G1) J1) (fun r M1 => rok me_119.2.2.2.1 r = true ∧ post r M1) := by
    intro G1 J1 Y hY q1 f1
    have hrt := rtE_of hA.2.2.2.1 hodd hh3 hA.2.2.1 hY
    have hyl : ∀ j, tV p D h Y j < p := fun j => tV_lt
    refine Rf.go 200 [36] ?_
    refine x_turn (d := d) (r := 45) (a := 44) hM rfl rfl (by decide) (by decide) (by exact hI.1) hpb.2 q1 (by omega) (fun G2 J2 q2 f2 => ?_)
    have e44 : ∀ j, j < 8 → rg I m G2 (m + 11) (Int32.ofInt 352 + nI j).toNatClampNeg = nI (tV p D h Y j) := fun j hj => by
      rw [ix352, nI_clamp (by omega), rg_at hj, f2 44 (by decide), q1]
      rfl
    have e45 : ∀ j, j < 8 → rg I m G2 (m + 11) (Int32.ofInt 360 + nI j).toNatClampNeg = nI ((p - tV p D h Y j) % p) := fun j hj => by
      rw [ix360, nI_clamp (by omega), rg_at hj, q2]
      show nI (tV p D h ((TI p D h).neg Y) j) = _
      rw [tV_neg]
    have i44 : ∀ j, j < 8 → inb (Int32.ofInt 352 + nI j) (mH M (m + 11)).2 = true := fun j hj => by
      rw [ix352, (hM.a512 (a := m + 11) (by omega)).2]
      exact inb_n (by omega) (by omega)
    have i45 : ∀ j, j < 8 → inb (Int32.ofInt 360 + nI j) (mH M (m + 11)).2 = true := fun j hj => by
      rw [ix360, (hM.a512 (a := m + 11) (by omega)).2]
      exact inb_n (by omega) (by omega)
    have aft : ∀ i, i ≤ 7 → fz (tV p D h Y) 7 0 = i → Rf K (d + 7) mc_119 54 (lk [(3, .int (nI i)), (0, .ref m), (1, .int (nI r))]) [] (St M (rg I m G2) J2) (fun r M1 => rok me_119.2.2.2.1 r = true ∧ post r M1) := by
      intro i hi he
      have hv : hdv (tV p D h Y) = tV p D h Y i := by unfold hdv; rw [he]
      have hyi := hyl i
      refine Rf.go 100 [] ?_
      refine And.intro hM.c ⟨m + 11, hM.r14, ?_⟩
      refine Or.inr (And.intro ⟨hM.rcg, i44 i (by omega)⟩ ?_)
      refine And.intro hM.c ⟨m + 11, hM.r14, ?_⟩
      refine Or.inr (And.intro ⟨hM.rcg, i45 i (by omega)⟩ ?_)
      refine And.intro (fun hc => ?_) (fun hc => ?_)
      · have hc : rg I m G2 (m + 11) (Int32.ofInt 360 + nI i).toNatClampNeg < rg I m G2 (m + 11) (Int32.ofInt 352 + nI i).toNatClampNeg := of_decide_eq_true hc
        rw [e44 i (by omega), e45 i (by omega)] at hc
        have hml : (p - tV p D h Y i) % p < p := Nat.mod_lt _ (by omega)
        have hc := (nI_ltI (by omega) (by omega)).mp hc
        have hne : tV p D h Y i ≠ 0 := fun q => by rw [q] at hc; omega
        rw [Nat.mod_eq_of_lt (by omega)] at hc
        refine x_copy (d := d) (r := r) (a := 45) hM rfl rfl hr (by decide) (by omega) (fun G3 J3 q3 f3 => ?_)
        refine ⟨rfl, hp G3 J3 ?_ (fun s h1 h2 h3 h4 => (f3 s h1).trans ((f2 s h4).trans (f1 s h3 h2)))⟩
        rw [q3, q2, ← hrt]
        unfold lsE
        rw [if_pos (by rw [hv]; omega)]
      · have hc : ¬ rg I m G2 (m + 11) (Int32.ofInt 360 + nI i).toNatClampNeg < rg I m G2 (m + 11) (Int32.ofInt 352 + nI i).toNatClampNeg := fun q => hc (decide_eq_true q)
        rw [e44 i (by omega), e45 i (by omega)] at hc
        have hml : (p - tV p D h Y i) % p < p := Nat.mod_lt _ (by omega)
        have hc : ¬ (p - tV p D h Y i) % p < tV p D h Y i := fun q => hc (nI_lt q (by omega))
        refine x_copy (d := d) (r := r) (a := 44) hM rfl rfl hr (by decide) (by omega) (fun G3 J3 q3 f3 => ?_)
        refine ⟨rfl, hp G3 J3 ?_ (fun s h1 h2 h3 h4 => (f3 s h1).trans ((f2 s h4).trans (f1 s h3 h2)))⟩
        rw [q3, f2 44 (by decide), q1, ← hrt]
        unfold lsE
        rw [if_neg (fun q => by
          rw [hv] at q
          by_cases h0 : tV p D h Y i = 0
          · omega
          · rw [Nat.mod_eq_of_lt (by omega)] at hc
            omega)]
    have key : ∀ n i, n + i = 7 → fz (tV p D h Y) 7 0 = fz (tV p D h Y) n i → Rf K (d + 7) mc_119 36 (lk [(3, .int (nI i)), (0, .ref m), (1, .int (nI r))]) [] (St M (rg I m G2) J2) (fun r M1 => rok me_119.2.2.2.1 r = true ∧ post r M1) := by
      intro n
      induction n with
      | zero =>
        intro i hi he
        obtain rfl : i = 7 := by omega
        refine Rf.go 100 [54] ?_
        refine And.intro (fun _ => ?_) (fun hb => absurd (by decide) hb)
        exact Rf.weak [(3, .int (nI 7)), (0, .ref m), (1, .int (nI r))] ⟨rfl, rfl, rfl, trivial⟩ (aft 7 (by omega) he)
      | succ n ih =>
        intro i hi he
        have he : fz (tV p D h Y) 7 0 = if tV p D h Y i = 0 then fz (tV p D h Y) n (i + 1) else i := he
        have hyi := hyl i
        have hml : (p - tV p D h Y i) % p < p := Nat.mod_lt _ (by omega)
        refine Rf.go 100 [36, 54] ?_
        refine And.intro (fun hb => absurd ((geN (n := 7) (by omega) (by omega)).mp hb) (by omega)) (fun _ => ?_)
        refine And.intro hM.c ⟨m + 11, hM.r14, ?_⟩
        refine Or.inr (And.intro ⟨hM.rcg, i44 i (by omega)⟩ ?_)
        refine And.intro hM.c ⟨m + 11, hM.r14, ?_⟩
        refine Or.inr (And.intro ⟨hM.rcg, i45 i (by omega)⟩ ?_)
        refine And.intro (fun hb => ?_) (fun hb => ?_)
        · have hb : ¬ rg I m G2 (m + 11) (Int32.ofInt 352 + nI i).toNatClampNeg = rg I m G2 (m + 11) (Int32.ofInt 360 + nI i).toNatClampNeg := of_decide_eq_true hb
          rw [e44 i (by omega), e45 i (by omega), nI_eq (by omega) (by omega), ng_eq hodd hyi] at hb
          rw [if_neg hb] at he
          exact Rf.weak [(3, .int (nI i)), (0, .ref m), (1, .int (nI r))] ⟨rfl, rfl, rfl, trivial⟩ (aft i (by omega) he)
        · have hb : rg I m G2 (m + 11) (Int32.ofInt 352 + nI i).toNatClampNeg = rg I m G2 (m + 11) (Int32.ofInt 360 + nI i).toNatClampNeg := Classical.not_not.mp (fun q => hb (decide_eq_true q))
          rw [e44 i (by omega), e45 i (by omega), nI_eq (by omega) (by omega), ng_eq hodd hyi] at hb
          rw [if_pos hb] at he
          exact Rf.weak [(3, .int (nI (i + 1))), (0, .ref m), (1, .int (nI r))] ⟨inc1 i, rfl, rfl, trivial⟩ (ih (i + 1) (by omega) he)
    exact Rf.weak [(3, .int (nI 0)), (0, .ref m), (1, .int (nI r))] ⟨rfl, rfl, rfl, trivial⟩ (key 7 0 rfl rfl)
  have eh : rg I m G m 1 = nI h := by rw [rg_m]; exact hI.2.1
  have rk := roots_ok (K := K) (J := J) hM hA d (d + 7) r a (nI a) X (fun r9 M1 => r9 = none ∧ Rf K (d + 7) mc_119 30 (lk [(0, .ref m), (1, .int (nI r))]) [] M1 (fun r M1 => rok me_119.2.2.2.1 r = true ∧ post r M1)) rfl ha fa hX hs (Nat.le_refl _) (fun G1 J1 Y h1 h2 h3 => ⟨rfl, tail G1 J1 Y h1 h2 h3⟩)
  refine Rf.go 100 [30] ?_
  refine And.intro hM.c ?_
  refine And.intro (fun hc => ?_) (fun hc => ?_)
  · have hc : ¬ rg I m G m 1 = 0 := of_decide_eq_true hc
    rw [eh] at hc
    have h0 : h ≠ 0 := fun q => hc (by rw [q]; rfl)
    refine And.intro hM.c ?_
    refine And.intro (fun hc => ?_) (fun hc => ?_)
    · have hc : ¬ rg I m G m 1 = Int32.ofInt 1 := of_decide_eq_true hc
      rw [eh] at hc
      have h1 : h ≠ 1 := fun q => hc (by rw [q]; rfl)
      refine And.intro hM.c ?_
      refine And.intro (fun hc => ?_) (fun hc => ?_)
      · have hc : ¬ rg I m G m 1 = Int32.ofInt 2 := of_decide_eq_true hc
        rw [eh] at hc
        have h2 : h ≠ 2 := fun q => hc (by rw [q]; rfl)
        rw [if_neg h0, if_neg h1, if_neg h2] at rk
        refine rk.up (Nat.le_refl _) ?_
        rintro r9 M9 ⟨rfl, hr9⟩
        exact Rf.weak [(0, .ref m), (1, .int (nI r))] ⟨rfl, rfl, trivial⟩ hr9
      · have hc : rg I m G m 1 = Int32.ofInt 2 := Classical.not_not.mp (fun q => hc (decide_eq_true q))
        rw [eh] at hc
        have h2 : h = 2 := (nI_eq (b := 2) (by omega) (by omega)).mp hc
        rw [if_neg h0, if_neg h1, if_pos h2] at rk
        refine rk.up (Nat.le_refl _) ?_
        rintro r9 M9 ⟨rfl, hr9⟩
        exact Rf.weak [(0, .ref m), (1, .int (nI r))] ⟨rfl, rfl, trivial⟩ hr9
    · have hc : rg I m G m 1 = Int32.ofInt 1 := Classical.not_not.mp (fun q => hc (decide_eq_true q))
      rw [eh] at hc
      have h1 : h = 1 := (nI_eq (b := 1) (by omega) (by omega)).mp hc
      rw [if_neg h0, if_pos h1] at rk
      refine rk.up (Nat.le_refl _) ?_
      rintro r9 M9 ⟨rfl, hr9⟩
      exact Rf.weak [(0, .ref m), (1, .int (nI r))] ⟨rfl, rfl, trivial⟩ hr9
  · have hc : rg I m G m 1 = 0 := Classical.not_not.mp (fun q => hc (decide_eq_true q))
    rw [eh] at hc
    have h0 : h = 0 := (nI_eq (b := 0) (by omega) (by omega)).mp hc
    rw [if_pos h0] at rk
    refine rk.up (Nat.le_refl _) ?_
    rintro r9 M9 ⟨rfl, hr9⟩
    exact Rf.weak [(0, .ref m), (1, .int (nI r))] ⟨rfl, rfl, trivial⟩ hr9
theorem un_vOk (hp : 2 ≤ p) {i : Nat} (hi : i < 2 ^ h) : vOk p h (un i) := ⟨fun j => by unfold un; split <;> omega, fun j hj => by unfold un; exact if_neg (by omega)⟩
theorem tbF_congr [NeZero p] (hp : 2 ≤ p) (he : ∀ i, i < h → D i = E i) {i j : Nat} (hi : i < 2 ^ h) (hj : j < 2 ^ h) (k : Nat) : tbF p D h i j k = tbF p E h i j k := by
  unfold tbF
  have e1 := cv_tV (p := p) (D := D) (D' := E) (Nat.le_refl h) ((TI p D h).mul (oV p D h (un i)) (oV p D h (un j)))
  rw [cv_mul (Nat.le_refl h) he] at e1
  have e2 : ∀ q, q < 2 ^ h → cv p D h E h (oV p D h (un q)) = oV p E h (un q) := fun q hq => by
    unfold cv
    rw [(un_vOk hp hq).tv]
  rw [e2 i hi, e2 j hj] at e1
  rw [e1]
theorem MoA_congr [NeZero p] (he : ∀ i, i < h → D i = E i) (hA : MoA I m p h D) : MoA I m p h E := by
  obtain ⟨⟨a1, a2, a3, a4, a5⟩, b1, c1, c2⟩ := hA
  refine ⟨⟨a1, a2, a3, a4, fun i j k hi hj hk => ?_⟩, fun i hi j hj => ?_, tOk_congr he c1, c2⟩
  · rw [a5 i j k hi hj hk, tbF_congr (by omega) he hi hj]
  · rw [b1 i hi j hj]
    congr 1
    have e1 := cv_tV (p := p) (D := D) (D' := E) (Nat.le_refl i) (oV p D i (D i))
    have e2 : cv p D i E i (oV p D i (D i)) = oV p E i (E i) := by
      rw [← he i hi]
      refine tV_inj (fun q hq => ?_)
      rw [cv_tV (Nat.le_refl i), tV_oV hq, tV_oV hq]
    rw [e2] at e1
    rw [e1]
/-- the table one level higher -/
theorem tbF_up [NeZero p] (hp : 2 ≤ p) (hh : h < 3) {i j : Nat} (hi : i < 2 ^ h) (hj : j < 2 ^ h) (k : Nat) : tbF p D (h + 1) i j k = tbF p D h i j k ∧ tbF p D (h + 1) (i + 2 ^ h) j k = (if k < 2 ^ h then 0 else if k < 2 * 2 ^ h then tbF p D h i j (k - 2 ^ h) else 0) ∧ tbF p D (h + 1) i (j + 2 ^ h) k = (if k < 2 ^ h then 0 else if k < 2 * 2 ^ h then tbF p D h i j (k - 2 ^ h) else 0) ∧ tbF p D (h + 1) (i + 2 ^ h) (j + 2 ^ h) k = tV p D h ((TI p D h).mul ((TI p D h).mul (oV p D h (un i)) (oV p D h (un j))) (oV p D h (D h))) k := by
  have hpw : 2 ^ (h + 1) = 2 * 2 ^ h := by rw [Nat.pow_succ]; omega
  have hz : ∀ q, ¬ q < 2 * 2 ^ h → tV p D h ((TI p D h).mul (oV p D h (un i)) (oV p D h (un j))) (q - 2 ^ h) = 0 := fun q hq => tV_hi (by omega)
  have cm : ∀ q, (if q < 2 ^ h then 0 else if q < 2 * 2 ^ h then tbF p D h i j (q - 2 ^ h) else 0) = (if q < 2 ^ h then 0 else tV p D h ((TI p D h).mul (oV p D h (un i)) (oV p D h (un j))) (q - 2 ^ h)) := fun q => by
    by_cases h1 : q < 2 ^ h
    · rw [if_pos h1, if_pos h1]
    · rw [if_neg h1, if_neg h1]
      by_cases h2 : q < 2 * 2 ^ h
      · rw [if_pos h2]; rfl
      · rw [if_neg h2, hz q h2]
  have u1 := un_up (p := p) (D := D) hi
  have u2 := un_up (p := p) (D := D) hj
  have v1 : oV p D (h + 1) (un (i + 2 ^ h)) = (((TI p D h).ofNat 0).ofNat, oV p D h (un i)) := by rw [Nat.add_comm i]; exact un_up2
  have v2 : oV p D (h + 1) (un (j + 2 ^ h)) = (((TI p D h).ofNat 0).ofNat, oV p D h (un j)) := by rw [Nat.add_comm j]; exact un_up2
  refine ⟨?_, ?_, ?_, ?_⟩
  · unfold tbF
    rw [u1, u2]
    exact (congrArg (fun z => tV p D (h + 1) z k) (@qx_aa (TR p D h) (TI p D h) (oV p D h (D h)) (oV p D h (un i)) (oV p D h (un j)))).trans (tV_fst _ k)
  · rw [cm]
    unfold tbF
    rw [v1, u2]
    exact (congrArg (fun z => tV p D (h + 1) z k) (@qx_ba (TR p D h) (TI p D h) (oV p D h (D h)) (oV p D h (un i)) (oV p D h (un j)))).trans (tV_snd _ k)
  · rw [cm]
    unfold tbF
    rw [u1, v2]
    exact (congrArg (fun z => tV p D (h + 1) z k) (@qx_ab (TR p D h) (TI p D h) (oV p D h (D h)) (oV p D h (un i)) (oV p D h (un j)))).trans (tV_snd _ k)
  · unfold tbF
    rw [v1, v2]
    exact (congrArg (fun z => tV p D (h + 1) z k) (@qx_bb (TR p D h) (TI p D h) (oV p D h (D h)) (oV p D h (un i)) (oV p D h (un j)))).trans (tV_fst _ k)
end Mg
