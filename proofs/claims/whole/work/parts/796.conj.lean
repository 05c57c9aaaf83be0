/-! degree, conjugate -/
/-- the cells of Facts -/
def FcM (M : Me) : Prop := isC M 12 0 = true ∧ (mR M 12 0 = some 13 ∧ isC M 13 13 = true ∧ (mH M 13).2 = 9 ∧ ∀ i, i < 9 → mR M 13 i = some (14 + i)) ∧ (mR M 12 1 = some 23 ∧ isC M 23 13 = true ∧ (mH M 23).2 = 5 ∧ ∀ i, i < 5 → mR M 23 i = some (24 + i)) ∧ (mR M 12 2 = some 29 ∧ isC M 29 13 = true ∧ (mH M 29).2 = 5 ∧ ∀ i, i < 5 → mR M 29 i = some (30 + i)) ∧ (mR M 12 3 = some 35 ∧ mR M 12 4 = some 36) ∧ ∀ a, (14 ≤ a ∧ a ≤ 22) ∨ (24 ≤ a ∧ a ≤ 28) ∨ (30 ≤ a ∧ a ≤ 36) → rc M a
/-- conjugate i -/
def cj (p : Nat) [NeZero p] (D : Nat → Nat → Nat) (h : Nat) (X : TR p D h) (i : Nat) : TR p D h := @pw (TR p D h) (TI p D h) X (p ^ i)
noncomputable def dgA (n : Nat) (kd : Nat → Nat) (V : Nat → Nat → Nat → Nat) (t : Int32) : Int32 := @ite _ (isT n kd t 0) (Classical.propDecidable _) (nI (2 ^ lvN (V (clp t) 0))) (Int32.ofInt (-1))
noncomputable def cjA (p : Nat) [NeZero p] (D : Nat → Nat → Nat) (h n : Nat) (kd : Nat → Nat) (V : Nat → Nat → Nat → Nat) (t i j : Int32) : Int32 := @ite _ (isT n kd t 0 ∧ ¬ i < 0 ∧ inL j 8) (Classical.propDecidable _) (@ite _ (inL i (2 ^ lvN (V (clp t) 0))) (Classical.propDecidable _) (nI (tV p D h (cj p D h (oV p D h (V (clp t) 0)) (clp i)) (clp j))) (Int32.ofInt (-7))) (Int32.ofInt (-1))
section Qg
variable {K : Ka} {d o o2 m p h n : Nat} {M : Me} {I G : Nat → Nat → Int32} {J : Nat → Nat → Int64} {D : Nat → Nat → Nat} {kd : Nat → Nat} {tl : Nat → Nat → Int32} {V : Nat → Nat → Nat → Nat} {g : Nat → Nat} {s t u : Int32}
theorem cj_s [NeZero p] {X : TR p D h} {i : Nat} : @pw (TR p D h) (TI p D h) (cj p D h X i) p = cj p D h X (i + 1) := by
  unfold cj
  rw [Nat.pow_succ, @pw_mul (TR p D h) (TI p D h)]
theorem cj_0 [NeZero p] {X : TR p D h} : cj p D h X 0 = X := by
  unfold cj
  rw [Nat.pow_zero, @pw_1 (TR p D h) (TI p D h)]
theorem lvN_Lev [NeZero p] {v : Nat → Nat} (hv : vOk p h v) (hh : h ≤ 3) (pb : p ≤ 32749) : Lev p D h (oV p D h v) (lvN v) ∧ lvN v ≤ h := lvU_Lev (I := fun _ j => nI (v j)) (x := 0) hh pb (Rv.re (fun _ _ => rfl) hv)
theorem p2L {L : Nat} (h : L ≤ 3) : 1 ≤ 2 ^ L ∧ 2 ^ L ≤ 8 := ⟨Nat.pow_pos (by decide), w8 h⟩
set_option maxHeartbeats 2000000 in
theorem x_raise [NeZero p] {r a d' : Nat} {z1 z2 : Int32} {X : TR p D h} {post : Option Value → Me → Prop} (hM : MoM M m) (hA : MoA I m p h D) (hz1 : z1 = nI r) (hz2 : z2 = nI a) (hr : r < 37) (ha : a < 37 ∨ 39 ≤ a) (ha6 : a < 64) (hX : G a = vE p D h X) (hd : d + 2 ≤ d') (hp : ∀ (G1 : Nat → Nat → Int32) (J1 : Nat → Nat → Int64), G1 r = vE p D h (@pw (TR p D h) (TI p D h) X p) → (∀ s, s ≠ r → s ≠ 37 → s ≠ 38 → G1 s = G s) → post none (St M (rg I m G1) J1)) : Ok K d' 154 [.ref m, .int z1, .int z2] (St M (rg I m G) J) post := by
  refine Ok.up (d := d + 2) (post := post) ?_ hd (fun _ _ h => h)
  subst hz1 hz2
  have pb := hA.1.2.2.2.1
  refine Ok.go (e := me_154) rfl rfl (Nat.le_of_ble_eq_true rfl) hM.c ?_
  have key : ∀ e, e < 2 ^ 31 → ∀ (G1 : Nat → Nat → Int32) (J1 : Nat → Nat → Int64) (A B : TR p D h), (∀ s, s ≠ 37 → s ≠ 38 → G1 s = G s) → G1 37 = vE p D h A → G1 38 = vE p D h B → (TI p D h).mul A (@pw (TR p D h) (TI p D h) B e) = @pw (TR p D h) (TI p D h) X p → Rf K (d + 1) mc_154 11 (lk [(3, .int (nI e)), (0, .ref m), (1, .int (nI r))]) [] (St M (rg I m G1) J1) (fun r M1 => rok me_154.2.2.2.1 r = true ∧ post r M1) := by
    intro e
    induction e using Nat.strongRecOn with
    | ind e ih =>
      intro he G1 J1 A B hfr hA1 hB1 hinv
      have e2 : nI e / Int32.ofInt 2 = nI (e / 2) := pk_div (d := 2) he (by decide) (by decide)
      have e3 : nI e - nI e / Int32.ofInt 2 * Int32.ofInt 2 = nI (e % 2) := pk_rem (d := 2) he (by decide) (by decide)
      have tail : e ≠ 0 → ∀ (G2 : Nat → Nat → Int32) (J2 : Nat → Nat → Int64) (A2 : TR p D h), (∀ s, s ≠ 37 → s ≠ 38 → G2 s = G s) → G2 37 = vE p D h A2 → G2 38 = vE p D h B → (TI p D h).mul A2 (@pw (TR p D h) (TI p D h) B (2 * (e / 2))) = @pw (TR p D h) (TI p D h) X p → Rf K (d + 1) mc_154 23 (lk [(3, .int (nI e)), (0, .ref m), (1, .int (nI r))]) [] (St M (rg I m G2) J2) (fun r M1 => rok me_154.2.2.2.1 r = true ∧ post r M1) := by
        intro h0 G2 J2 A2 hfr2 hA2 hB2 hinv2
        refine Rf.go 100 [11] ?_
        refine x_times (d := d) (r := 38) (a := 38) (b := 38) hM hA.1 rfl rfl rfl (by decide) (by decide) (by decide) hB2 hB2 (by omega) (fun G3 J3 q3 f3 => ?_)
        refine And.intro (by decide) ?_
        refine Rf.weak [(3, .int (nI (e / 2))), (0, .ref m), (1, .int (nI r))] ⟨congrArg (fun z => some (Value.int z)) e2, rfl, rfl, trivial⟩ (ih (e / 2) (by omega) (by omega) G3 J3 A2 _ (fun s h1 h2 => (f3 s h2).trans (hfr2 s h1 h2)) ((f3 37 (by decide)).trans hA2) q3 ?_)
        rw [@pw_mul (TR p D h) (TI p D h), @pw_2 (TR p D h) (TI p D h)] at hinv2
        exact hinv2
      refine Rf.go 100 [11, 23] ?_
      refine And.intro (fun q => ?_) (fun q => ?_)
      · have h0 := (le0N he).mp q
        subst h0
        have hinv : A = @pw (TR p D h) (TI p D h) X p := ((TI p D h).mul_one A).symm.trans hinv
        refine x_copy (d := d) (r := r) (a := 37) hM rfl rfl (by omega) (by decide) (by omega) (fun G2 J2 q2 f2 => ?_)
        exact ⟨rfl, hp G2 J2 (by rw [q2, hA1, hinv]) (fun s h1 h2 h3 => (f2 s h1).trans (hfr s h2 h3))⟩
      · have h0 : e ≠ 0 := fun w => q ((le0N he).mpr w)
        refine And.intro (by decide) ?_
        refine And.intro (fun hc => ?_) (fun hc => ?_)
        · have hc : ¬ nI e - nI e / Int32.ofInt 2 * Int32.ofInt 2 = Int32.ofInt 1 := of_decide_eq_true hc
          rw [e3] at hc
          have hev : e % 2 = 0 := by
            rcases Nat.mod_two_eq_zero_or_one e with q | q
            · exact q
            · exact absurd (by rw [q]; rfl) hc
          refine Rf.weak [(3, .int (nI e)), (0, .ref m), (1, .int (nI r))] ⟨rfl, rfl, rfl, trivial⟩ (tail h0 G1 J1 A hfr hA1 hB1 ?_)
          rw [show 2 * (e / 2) = e by omega]
          exact hinv
        · have hc : nI e - nI e / Int32.ofInt 2 * Int32.ofInt 2 = Int32.ofInt 1 := Classical.not_not.mp (fun w => hc (decide_eq_true w))
          rw [e3] at hc
          have hod : e % 2 = 1 := (nI_eq (a := e % 2) (b := 1) (by omega) (by omega)).mp hc
          refine x_times (d := d) (r := 37) (a := 37) (b := 38) hM hA.1 rfl rfl rfl (by decide) (by decide) (by decide) hA1 hB1 (by omega) (fun G3 J3 q3 f3 => ?_)
          refine Rf.weak [(3, .int (nI e)), (0, .ref m), (1, .int (nI r))] ⟨rfl, rfl, rfl, trivial⟩ (tail h0 G3 J3 _ (fun s h1 h2 => (f3 s h1).trans (hfr s h1 h2)) q3 ((f3 38 (by decide)).trans hB1) ?_)
          have e9 : @pw (TR p D h) (TI p D h) B e = (TI p D h).mul (@pw (TR p D h) (TI p D h) B (2 * (e / 2))) B := by
            rw [show e = 2 * (e / 2) + 1 by omega, show (2 * (e / 2) + 1) / 2 = e / 2 by omega]
            rfl
          rw [e9] at hinv
          rw [← hinv]
          letI I9 := TI p D h
          show A * B * pw B (2 * (e / 2)) = A * (pw B (2 * (e / 2)) * B)
          grind
  refine Rf.go 100 [11] ?_
  refine x_set1 (d := d) (r := 37) (p := p) (D := D) (h := h) hM rfl (by decide) (by omega) (by omega) (fun G2 J2 q2 f2 => ?_)
  refine x_copy (d := d) (r := 38) (a := a) hM rfl rfl (by decide) ha6 (by omega) (fun G3 J3 q3 f3 => ?_)
  refine And.intro hM.c ?_
  refine Rf.weak [(3, .int (nI p)), (0, .ref m), (1, .int (nI r))] ⟨congrArg (fun z => some (Value.int z)) (show rg I m G3 m 0 = nI p by rw [rg_m]; exact hA.1.1), rfl, rfl, trivial⟩ (key p (by omega) G3 J3 _ X (fun s h1 h2 => (f3 s h2).trans (f2 s h1)) ((f3 37 (by decide)).trans q2) (q3.trans ((f2 a (by omega)).trans hX)) ?_)
  letI I9 := TI p D h
  show (1 : TR p D h) * pw X p = pw X p
  grind
set_option maxHeartbeats 1000000 in
theorem m_conjs [NeZero p] {a L d' : Nat} {z : Int32} {X : TR p D h} {post : Option Value → Me → Prop} (hM : MoM M m) (hA : MoA I m p h D) (hz : z = nI a) (ha : a < 60) (hX : ∀ j, j < 8 → I (m + 7) (24 * a + 8 * 0 + j) = vE p D h X j) (hL : Lev p D h X L) (hLh : L ≤ h) (hd : d + 3 ≤ d') (hp : ∀ (G1 : Nat → Nat → Int32) (J1 : Nat → Nat → Int64), (∀ i, i < 2 ^ L → G1 (52 + i) = vE p D h (cj p D h X i)) → post (some (.int (nI (2 ^ L)))) (St M (rg I m G1) J1)) : Ok K d' 155 [.ref m, .int z] (St M (rg I m G) J) post := by
  refine Ok.up (d := d + 3) (post := post) ?_ hd (fun _ _ h => h)
  subst hz
  have hh3 := hA.1.2.2.1
  have pb := hA.1.2.2.2.1
  obtain ⟨p1, p8⟩ := p2L (L := L) (by omega)
  have hci := conj_iff hA.2.2.2.1 hA.2.2.2.2 hA.2.2.1 hLh hL
  refine Ok.go (e := me_155) rfl rfl (Nat.le_of_ble_eq_true rfl) hM.c ?_
  obtain ⟨N1, hN1⟩ : ∃ N1, 2 ^ L = N1 + 1 := ⟨2 ^ L - 1, by omega⟩
  have key : ∀ i, i ≤ N1 → ∀ (G1 : Nat → Nat → Int32) (J1 : Nat → Nat → Int64), G1 3 = vE p D h (cj p D h X (i + 1)) → (∀ j, j < i + 1 → G1 (52 + j) = vE p D h (cj p D h X j)) → Rf K (d + 2) mc_155 11 (lk [(2, .int (nI (i + 1))), (0, .ref m)]) [] (St M (rg I m G1) J1) (fun r M1 => rok me_155.2.2.2.1 r = true ∧ post r M1) := by
    refine for_up N1 ?_ (fun i hi ih => ?_)
    · intro G1 J1 h3 hc
      refine Rf.go 100 [11] ?_
      refine m_isSame (d := d) (a := 3) (b := 52) hM rfl rfl (by decide) (by decide) hh3 pb.2 h3 (hc 0 (by omega)) (by omega) (fun _ => ?_) (fun w => absurd ?_ w)
      · have hp := hp G1 J1 (fun i hi => hc i (by omega))
        rw [hN1] at hp
        exact And.intro (fun _ => ⟨rfl, hp⟩) (fun w => absurd (by decide) w)
      · rw [cj_0]
        exact (hci (N1 + 1)).mpr ⟨1, by omega⟩
    · intro G1 J1 h3 hc
      refine Rf.go 100 [11] ?_
      refine m_isSame (d := d) (a := 3) (b := 52) hM rfl rfl (by decide) (by decide) hh3 pb.2 h3 (hc 0 (by omega)) (by omega) (fun w => ?_) (fun _ => ?_)
      · rw [cj_0] at w
        have := Nat.le_of_dvd (by omega) ((hci (i + 1)).mp w)
        omega
      · refine And.intro (fun w => absurd w (by decide)) (fun _ => ?_)
        have ea : Int32.ofInt 52 + nI (i + 1) = nI (52 + (i + 1)) := nI_add 52 (i + 1)
        refine x_copy (d := d) (r := 52 + (i + 1)) (a := 3) hM ea rfl (by omega) (by decide) (by omega) (fun G2 J2 q2 f2 => ?_)
        refine x_raise (d := d) (r := 3) (a := 3) hM hA rfl rfl (by decide) (by decide) (by decide) ((f2 3 (by omega)).trans h3) (by omega) (fun G3 J3 q3 f3 => ?_)
        rw [cj_s] at q3
        refine Rf.weak [(2, .int (nI (i + 1 + 1))), (0, .ref m)] ⟨inc1 (i + 1), rfl, trivial⟩ (ih G3 J3 q3 (fun j hj => ?_))
        rw [f3 _ (by omega) (by omega) (by omega)]
        by_cases c : j = i + 1
        · rw [c, q2, h3]
        · rw [f2 _ (by omega)]
          exact hc j (by omega)
  refine Rf.go 100 [11] ?_
  refine x_loadE (d := d) (r := 52) (a := a) (k := 0) (v := vE p D h X) hM rfl rfl rfl (by decide) ha (by decide) hX (by omega) (fun G1 J1 q1 f1 => ?_)
  refine x_raise (d := d) (r := 3) (a := 52) hM hA rfl rfl (by decide) (by decide) (by decide) q1 (by omega) (fun G2 J2 q2 f2 => ?_)
  refine Rf.weak [(2, .int (nI (0 + 1))), (0, .ref m)] ⟨rfl, rfl, trivial⟩ (key 0 (Nat.zero_le _) G2 J2 ?_ (fun j hj => ?_))
  · rw [q2, ← cj_s, cj_0]
  · rw [show j = 0 by omega, cj_0]
    exact (f2 52 (by decide) (by decide) (by decide)).trans q1
theorem m_degree' [NeZero p] {d' : Nat} {post : Option Value → Me → Prop} (hM : MoM M m) (hR : MR I m p D h n kd tl V g) (hd : d + 4 ≤ d') (hp : ∀ G1 J1, post (some (.int (dgA n kd V t))) (St M (rg I m G1) J1)) : Ok K d' 156 [.ref m, .int t] (St M (rg I m G) J) post := by
  refine Ok.up (d := d + 4) (post := post) ?_ hd (fun _ _ h => h)
  obtain ⟨mA, mT, mS, mV, mB⟩ := hR
  have n6 := mT.2.1
  refine Ok.go (e := me_156) rfl rfl (Nat.le_of_ble_eq_true rfl) hM.c ?_
  refine Rf.go 100 [] ?_
  refine m_isOf (d := d) (s := 0) hM mT.rg rfl (by decide) (by omega) (fun q => ?_) (fun q => ?_)
  · rw [show dgA n kd V t = _ from if_pos q] at hp
    obtain ⟨a, ha, rfl, qa⟩ := q
    rw [clp_n (show a < 2 ^ 31 by omega)] at hp
    have hva := mV a ha 0 (by decide)
    obtain ⟨hL, hLh⟩ := lvN_Lev (D := D) hva.2.1 mA.1.2.2.1 mA.1.2.2.2.1.2
    refine And.intro (fun w => absurd w (by decide)) (fun _ => ?_)
    exact m_conjs (d := d) hM mA rfl (by omega) (mV.v ha (by decide)) hL hLh (by omega) (fun G1 J1 _ => ⟨rfl, hp G1 J1⟩)
  · rw [show dgA n kd V t = Int32.ofInt (-1) from if_neg q] at hp
    exact And.intro (fun _ => ⟨rfl, hp G J⟩) (fun w => absurd (by decide) w)
theorem m_degree [NeZero p] {d' : Nat} {post : Option Value → Me → Prop} (hM : MoM M m) (hR : MR I m p D h n kd tl V g) (hd : d + 4 ≤ d') (hp : ∀ I1 J1, QfM I I1 m → post (some (.int (dgA n kd V t))) (St M I1 J1)) : Ok K d' 156 [.ref m, .int t] (St M I J) post := by
  have w := m_degree' (K := K) (d := d) (d' := d') (J := J) (post := post) (t := t) (G := fun r j => I (m + 11) (8 * r + j)) hM hR hd (fun G1 J1 => hp _ J1 QfM.rg)
  rw [rg_self] at w
  exact w
theorem c_degree [NeZero p] {d' : Nat} {post : Option Value → Me → Prop} (hK : Kst K) (hM : CtM M o o2) (hR : CR I o p D h n kd tl V g) (hd : d + 4 ≤ d') (hp : post (some (.int (dgA n kd V t))) (St M I J)) : Ok K d' 84 [.ref 8, .int t] (St M I J) post := by
  refine Ok.up (d := d + 4) (post := post) ?_ hd (fun _ _ h => h)
  obtain ⟨hC, ⟨r0, r1, r2, r3⟩, hS, hH, hH2, hoo⟩ := hM
  obtain ⟨⟨s1, s2, s3⟩, hTw, hv, hg⟩ := hR
  have hkd : ∀ s, s < n → I (9 + 1) s = nI (kd s) ∧ kd s < 14 := fun s hs => (s3 s hs).1
  refine Ok.go (e := me_84) rfl rfl (Nat.le_of_ble_eq_true rfl) hC ?_
  refine Rf.go 100 [] ?_
  refine And.intro hC ⟨9, r0, ?_⟩
  refine s_sortAny (d := d) hK hS s1 s2 hkd (by omega) (fun a ha hat => ?_) (fun hna => ?_)
  · have ha4 := srt_lt (kd a) (s3 a ha).1.2
    subst hat
    refine And.intro (fun q => ?_) (fun q => ?_)
    · have q : nI (srt (kd a)) = 0 := of_decide_eq_true q
      have qa : srt (kd a) = 0 := (nI_eq (b := 0) (by omega) (by decide)).mp q
      have hva := hv a ha 0 (by show 0 < szs (srt (kd a)); rw [qa]; decide)
      rw [show dgA n kd V (nI a) = _ from if_pos ⟨a, ha, rfl, qa⟩, clp_n (show a < 2 ^ 31 by omega)] at hp
      refine And.intro hC ⟨o, r2, ?_⟩
      refine And.intro hH.c ⟨o + 1, hH.r0, ?_⟩
      refine And.intro hC ⟨o, r2, ?_⟩
      refine (h_row (d := d) (t := a) (i := 0) hH (by omega) (by omega) rfl rfl).up (by omega) ?_
      rintro r M1 ⟨rfl, rfl⟩
      refine (t_degreeOf (d := d) hH.tc (hH.rc (by omega))).up (by omega) ?_
      rintro r M1 ⟨hr, rfl⟩
      rw [lvN_re hva.1] at hr
      subst hr
      exact ⟨rfl, hp⟩
    · have qa : ¬ srt (kd a) = 0 := fun w => q (decide_eq_true (by rw [w]; rfl))
      rw [show dgA n kd V (nI a) = Int32.ofInt (-1) from if_neg (fun w => qa ((isT_n ha s2).mp w))] at hp
      exact ⟨rfl, hp⟩
  · rw [show dgA n kd V t = Int32.ofInt (-1) from if_neg (isT_no hna)] at hp
    exact And.intro (fun w => absurd w (by decide)) (fun _ => ⟨rfl, hp⟩)
theorem m_conjugate' [NeZero p] {d' : Nat} {post : Option Value → Me → Prop} (hM : MoM M m) (hR : MR I m p D h n kd tl V g) (hd : d + 4 ≤ d') (hp : ∀ G1 J1, post (some (.int (cjA p D h n kd V s t u))) (St M (rg I m G1) J1)) : Ok K d' 158 [.ref m, .int s, .int t, .int u] (St M (rg I m G) J) post := by
  refine Ok.up (d := d + 4) (post := post) ?_ hd (fun _ _ h => h)
  obtain ⟨mA, mT, mS, mV, mB⟩ := hR
  have n6 := mT.2.1
  have no : ¬ (isT n kd s 0 ∧ ¬ t < 0 ∧ inL u 8) → cjA p D h n kd V s t u = Int32.ofInt (-1) := fun q => if_neg q
  refine Ok.go (e := me_158) rfl rfl (Nat.le_of_ble_eq_true rfl) hM.c ?_
  refine Rf.go 100 [] ?_
  refine m_isOf (d := d) (s := 0) hM mT.rg rfl (by decide) (by omega) (fun q => ?_) (fun q => ?_)
  · refine And.intro (fun w => absurd w (by decide)) (fun _ => ?_)
    refine And.intro (fun w => ?_) (fun w => ?_)
    · have w : t < 0 := of_decide_eq_true w
      rw [no (fun v => v.2.1 w)] at hp
      exact ⟨rfl, hp G J⟩
    have w : ¬ t < 0 := fun v => w (decide_eq_true v)
    refine m_in (d := d) (by omega) (fun q2 => ?_) (fun q2 => ?_)
    · have q2 := (in_iff (hi := 7) (by decide)).mp q2
      rw [show cjA p D h n kd V s t u = _ from if_pos ⟨q, w, q2⟩] at hp
      obtain ⟨a, ha, rfl, qa⟩ := q
      obtain ⟨j, hj, rfl⟩ := q2
      obtain ⟨i, hi, rfl⟩ := nI_of w
      rw [clp_n (show a < 2 ^ 31 by omega), clp_n hi, clp_n (show j < 2 ^ 31 by omega)] at hp
      have hva := mV a ha 0 (by decide)
      obtain ⟨hL, hLh⟩ := lvN_Lev (D := D) hva.2.1 mA.1.2.2.1 mA.1.2.2.2.1.2
      obtain ⟨p1, p8⟩ := p2L (lvN_le (V a 0))
      refine And.intro (fun _ => ?_) (fun w => absurd (by decide) w)
      refine m_conjs (d := d) hM mA rfl (by omega) (mV.v ha (by decide)) hL hLh (by omega) (fun G1 J1 hc => ?_)
      refine And.intro (fun c => ?_) (fun c => ?_)
      · have c := (geN hi (by omega)).mp c
        rw [if_neg (fun v => absurd ((inL_n hi (by omega)).mp v) (by omega))] at hp
        exact ⟨rfl, hp G1 J1⟩
      · have c : i < 2 ^ lvN (V a 0) := by
          apply Classical.byContradiction
          intro v
          exact c ((geN hi (by omega)).mpr (by omega))
        have hp := hp G1 J1
        rw [if_pos ⟨i, c, rfl⟩] at hp
        have ea : Int32.ofInt 52 + nI i = nI (52 + i) := nI_add 52 i
        have ex : Int32.ofInt 8 * (Int32.ofInt 52 + nI i) + nI j = Int32.ofInt 8 * nI (52 + i) + nI j := by rw [ea]
        refine And.intro hM.c ⟨m + 11, hM.r14, ?_⟩
        refine Or.inr (And.intro ⟨hM.rcg, ?_⟩ ?_)
        · show inb (Int32.ofInt 8 * (Int32.ofInt 52 + nI i) + nI j) (mH M (m + 11)).2 = true
          rw [ex]
          exact hM.ing (by omega) hj
        · have e : rg I m G1 (m + 11) (Int32.ofInt 8 * (Int32.ofInt 52 + nI i) + nI j).toNatClampNeg = nI (tV p D h (cj p D h (oV p D h (V a 0)) i) j) := by
            rw [ex, rdr (by omega) hj, hc i c]
            rfl
          rw [← e] at hp
          exact ⟨rfl, hp⟩
    · rw [no (fun v => q2 ((in_iff (hi := 7) (by decide)).mpr v.2.2))] at hp
      exact And.intro (fun w => absurd w (by decide)) (fun _ => ⟨rfl, hp G J⟩)
  · rw [no (fun v => q v.1)] at hp
    exact And.intro (fun _ => ⟨rfl, hp G J⟩) (fun w => absurd (by decide) w)
theorem m_conjugate [NeZero p] {d' : Nat} {post : Option Value → Me → Prop} (hM : MoM M m) (hR : MR I m p D h n kd tl V g) (hd : d + 4 ≤ d') (hp : ∀ I1 J1, QfM I I1 m → post (some (.int (cjA p D h n kd V s t u))) (St M I1 J1)) : Ok K d' 158 [.ref m, .int s, .int t, .int u] (St M I J) post := by
  have w := m_conjugate' (K := K) (d := d) (d' := d') (J := J) (post := post) (s := s) (t := t) (u := u) (G := fun r j => I (m + 11) (8 * r + j)) hM hR hd (fun G1 J1 => hp _ J1 QfM.rg)
  rw [rg_self] at w
  exact w
theorem FcM.rc (hF : FcM M) {a : Nat} (h : (14 ≤ a ∧ a ≤ 22) ∨ (24 ≤ a ∧ a ≤ 28) ∨ (30 ≤ a ∧ a ≤ 36)) : rc M a := hF.2.2.2.2.2 a h
theorem f_image [NeZero p] {T x i d' : Nat} {z : Int32} {X : TR p D h} {post : Option Value → Me → Prop} (hK : Ksp K) (hF : FcM M) (hT : TwM M T) (hT37 : 37 ≤ T) (hI : TwI I T p h D) (hx : rc M x) (hz : z = nI i) (hi : i ≤ 8) (hX : Re I p D h x X) (hd : d + 3 ≤ d') (hp : ∀ I1 J1, Re I1 p D h 36 (cj p D h X i) → (∀ a, a ≠ 36 → a ≠ T + 10 → I1 a = I a) → post (some (.ref 36)) (St M I1 J1)) : Ok K d' 3 [.ref 12, .ref T, .ref x, .int z] (St M I J) post := by
  refine Ok.up (d := d + 3) (post := post) ?_ hd (fun _ _ h => h)
  subst hz
  have r4 := hF.2.2.2.2.1.2
  have r36 : rc M 36 := hF.rc (by omega)
  have pb := hI.2.2.2.1.2
  refine Ok.go (e := me_3) rfl rfl (Nat.le_of_ble_eq_true rfl) hF.1 ?_
  have key : ∀ j, j ≤ i → ∀ I1 J1, Re I1 p D h 36 (cj p D h X j) → (∀ a, a ≠ 36 → a ≠ T + 10 → I1 a = I a) → Rf K (d + 2) mc_3 7 (lk [(4, .int (nI j)), (0, .ref 12), (1, .ref T), (3, .int (nI i))]) [] (St M I1 J1) (fun r M1 => rok me_3.2.2.2.1 r = true ∧ post r M1) := by
    refine for_up i ?_ (fun j hj ih => ?_)
    · intro I1 J1 hR hf
      refine Rf.go 100 [7] ?_
      refine And.intro (fun _ => ?_) (fun q => absurd ((geN (by omega) (by omega)).mpr (Nat.le_refl _)) q)
      refine And.intro hF.1 ⟨36, r4, ?_⟩
      exact ⟨rfl, hp I1 J1 hR hf⟩
    · intro I1 J1 hR hf
      have hI1 : TwI I1 T p h D := hI.keep (hf _ (by omega) (by omega)) (hf _ (by omega) (by omega))
      refine Rf.go 100 [7] ?_
      refine And.intro (fun q => absurd ((geN (by omega) (by omega)).mp q) (by omega)) (fun _ => ?_)
      refine And.intro (fun q => absurd ((geN (n := 8) (by omega) (by decide)).mp q) (by omega)) (fun _ => ?_)
      refine And.intro hF.1 ⟨36, r4, ?_⟩
      refine And.intro hT.1 ?_
      refine And.intro hF.1 ⟨36, r4, ?_⟩
      have q := e_raise (K := K) (d := d) (J := J1) (n := p) hK hT hI1 r36 r36 hR (by omega) (Or.inl (by omega))
      rw [← hI1.1, cj_s] at q
      refine q.up (by omega) ?_
      rintro r M1 ⟨rfl, I2, J2, rfl, hR2, hf2⟩
      exact Rf.weak [(4, .int (nI (j + 1))), (0, .ref 12), (1, .ref T), (3, .int (nI i))] ⟨inc1 j, rfl, rfl, rfl, trivial⟩ (ih I2 J2 hR2 (fun a h1 h2 => (hf2 a h1 h2).trans (hf a h1 h2)))
  refine Rf.go 100 [7] ?_
  refine And.intro hF.1 ⟨36, r4, ?_⟩
  refine Wr.go (e_copy (d := d) (X := X) hT hx r36 hX) (by omega) (fun J2 => ?_)
  exact Rf.weak [(4, .int (nI 0)), (0, .ref 12), (1, .ref T), (3, .int (nI i))] ⟨rfl, rfl, rfl, rfl, trivial⟩ (key 0 (Nat.zero_le _) _ J2 (by rw [cj_0]; exact Re_rwE) (fun a h1 h2 => rwE_ne h1))
theorem c_conjugate [NeZero p] {d' : Nat} {post : Option Value → Me → Prop} (hK : Kst K) (hM : CtM M o o2) (hF : FcM M) (hR : CR I o p D h n kd tl V g) (hd : d + 4 ≤ d') (hp : ∀ I1 J1, QfC I I1 o → post (some (.int (cjA p D h n kd V s t u))) (St M I1 J1)) : Ok K d' 86 [.ref 8, .int s, .int t, .int u] (St M I J) post := by
  refine Ok.up (d := d + 4) (post := post) ?_ hd (fun _ _ h => h)
  obtain ⟨hC, ⟨r0, r1, r2, r3⟩, hS, hH, hH2, hoo⟩ := hM
  obtain ⟨⟨s1, s2, s3⟩, hTw, hv, hg⟩ := hR
  have hkd : ∀ s, s < n → I (9 + 1) s = nI (kd s) ∧ kd s < 14 := fun s hs => (s3 s hs).1
  have no : ¬ (isT n kd s 0 ∧ ¬ t < 0 ∧ inL u 8) → cjA p D h n kd V s t u = Int32.ofInt (-1) := fun q => if_neg q
  have hp0 := hp I J (fun _ _ _ _ _ => rfl)
  refine Ok.go (e := me_86) rfl rfl (Nat.le_of_ble_eq_true rfl) hC ?_
  refine Rf.go 100 [] ?_
  refine And.intro hC ⟨9, r0, ?_⟩
  refine s_sortAny (d := d) hK hS s1 s2 hkd (by omega) (fun a ha hat => ?_) (fun hna => ?_)
  · have ha4 := srt_lt (kd a) (s3 a ha).1.2
    subst hat
    refine And.intro (fun q => ?_) (fun q => ?_)
    · have q : ¬ nI (srt (kd a)) = 0 := of_decide_eq_true q
      rw [no (fun w => q (by rw [(isT_n ha s2).mp w.1]; rfl))] at hp0
      exact ⟨rfl, hp0⟩
    have q : nI (srt (kd a)) = 0 := Classical.not_not.mp (fun w => q (decide_eq_true w))
    have qa : srt (kd a) = 0 := (nI_eq (b := 0) (by omega) (by decide)).mp q
    have hva := hv a ha 0 (by show 0 < szs (srt (kd a)); rw [qa]; decide)
    obtain ⟨p1, p8⟩ := p2L (lvN_le (V a 0))
    refine And.intro (fun w => ?_) (fun w => ?_)
    · have w : t < 0 := of_decide_eq_true w
      rw [no (fun v => v.2.1 w)] at hp0
      exact ⟨rfl, hp0⟩
    have w : ¬ t < 0 := fun v => w (decide_eq_true v)
    refine And.intro (fun v => ?_) (fun v => ?_)
    · have v : u < 0 := of_decide_eq_true v
      rw [no (fun x => ((inL_iff (by decide)).mp x.2.2).1 v)] at hp0
      exact ⟨rfl, hp0⟩
    have v : ¬ u < 0 := fun x => v (decide_eq_true x)
    refine And.intro (fun y => ?_) (fun y => ?_)
    · have y : u < Int32.ofInt 8 := of_decide_eq_true y
      have hu : inL u 8 := (inL_iff (by decide)).mpr ⟨v, y⟩
      have e : cjA p D h n kd V (nI a) t u = _ := if_pos ⟨⟨a, ha, rfl, qa⟩, w, hu⟩
      obtain ⟨j, hj, rfl⟩ := hu
      obtain ⟨i, hi, rfl⟩ := nI_of w
      rw [clp_n (show a < 2 ^ 31 by omega), clp_n hi, clp_n (show j < 2 ^ 31 by omega)] at e
      rw [e] at hp hp0
      refine And.intro hC ⟨o, r2, ?_⟩
      refine (h_row (d := d) (t := a) (i := 0) hH (by omega) (by omega) rfl rfl).up (by omega) ?_
      rintro r M1 ⟨rfl, rfl⟩
      refine And.intro hC ⟨o, r2, ?_⟩
      refine And.intro hH.c ⟨o + 1, hH.r0, ?_⟩
      refine (t_degreeOf (d := d) hH.tc (hH.rc (by omega))).up (by omega) ?_
      rintro r M1 ⟨hr, rfl⟩
      rw [lvN_re hva.1] at hr
      subst hr
      refine And.intro (fun c => ?_) (fun c => ?_)
      · have c := (ltN hi (by omega)).mp c
        refine And.intro hC ⟨12, r1, ?_⟩
        refine And.intro hC ⟨o, r2, ?_⟩
        refine And.intro hH.c ⟨o + 1, hH.r0, ?_⟩
        refine f_image (d := d) (i := i) (X := oV p D h (V a 0)) hK.1 hF hH.tw (by omega) hTw.1 (hH.rc (by omega)) rfl (by omega) (hva.1.re hva.2) (by omega) (fun I1 J1 hR1 hf => ?_)
        have r36 : rc M 36 := hF.rc (by omega)
        refine Or.inr (And.intro ⟨r36.1, rc_in r36 hj⟩ ?_)
        have hp := hp I1 J1 (fun x h1 h2 h3 h4 => hf x (by omega) (by omega))
        rw [if_pos ⟨i, c, rfl⟩, ← hR1 j hj] at hp
        have e2 : (nI j).toNatClampNeg = j := nI_clamp (by omega)
        refine ⟨rfl, ?_⟩
        show post (some (Value.int (I1 36 (nI j).toNatClampNeg))) (St M I1 J1)
        rw [e2]
        exact hp
      · have c : ¬ i < 2 ^ lvN (V a 0) := fun x => c ((ltN hi (by omega)).mpr x)
        rw [if_neg (fun x => c ((inL_n hi (by omega)).mp x))] at hp0
        exact ⟨rfl, hp0⟩
    · have y : ¬ u < Int32.ofInt 8 := fun x => y (decide_eq_true x)
      rw [no (fun x => y ((inL_iff (by decide)).mp x.2.2).2)] at hp0
      exact ⟨rfl, hp0⟩
  · rw [no (fun w => isT_no hna w.1)] at hp0
    exact And.intro (fun _ => ⟨rfl, hp0⟩) (fun w => absurd (by decide) w)
end Qg
