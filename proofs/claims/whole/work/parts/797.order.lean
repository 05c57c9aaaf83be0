/-! order -/
noncomputable def oF (p : Nat) [NeZero p] (D : Nat → Nat → Nat) (h : Nat) (X : TR p D h) : Nat → Nat → Int32
  | 0, _ => Int32.ofInt (-7)
  | f + 1, k => @ite _ (@pw (TR p D h) (TI p D h) X k = ((TI p D h).ofNat 1).ofNat) (Classical.propDecidable _) (nI k) (oF p D h X f (k + 1))
noncomputable def orA (p : Nat) [NeZero p] (D : Nat → Nat → Nat) (h n : Nat) (kd : Nat → Nat) (V : Nat → Nat → Nat → Nat) (t : Int32) : Int32 := @ite _ (isT n kd t 0) (Classical.propDecidable _) (@ite _ (oV p D h (V (clp t) 0) = ((TI p D h).ofNat 0).ofNat) (Classical.propDecidable _) (Int32.ofInt (-2)) (oF p D h (oV p D h (V (clp t) 0)) 4000 1)) (Int32.ofInt (-1))
theorem dvd_one_mod {a N : Nat} (ha : 1 ≤ a) : N ∣ a - 1 ↔ a % N = 1 % N := by
  constructor
  · rintro ⟨c, hc⟩
    rw [show a = N * c + 1 by omega, Nat.mul_add_mod]
  · intro q
    exact Nat.dvd_of_mod_eq_zero (Nat.sub_mod_eq_zero_of_mod_eq q)
section Qh
variable {K : Ka} {d o o2 m p h n : Nat} {M : Me} {I G : Nat → Nat → Int32} {J : Nat → Nat → Int64} {D : Nat → Nat → Nat} {kd : Nat → Nat} {tl : Nat → Nat → Int32} {V : Nat → Nat → Nat → Nat} {g : Nat → Nat} {s t u : Int32}
theorem fh_ord [NeZero p] {X : TR p D h} {L N : Nat} (hp : Pr p) (ho : p % 2 = 1) (hT : tOk p D h) (hh : h ≤ 3) (hL : Lev p D h X L) (hLh : L ≤ h) (hx0 : ¬ X = ((TI p D h).ofNat 0).ofNat) (hn : @Ord (TR p D h) (TI p D h) X N) : fh p N 4 0 = nI L := by
  have e : ∀ k, k ≤ h → (p ^ 2 ^ k % N = 1 % N ↔ L ≤ k) := fun k hk => (dvd_one_mod (Nat.pow_pos (by have := hp.1; omega))).symm.trans (ord_lev hp ho hT hLh hL hx0 hn hk)
  have st : ∀ f k, k ≤ L → L < f + k → fh p N f k = nI L := by
    intro f
    induction f with
    | zero => intro k h1 h2; omega
    | succ f ih =>
      intro k h1 h2
      show (if p ^ 2 ^ k % N = 1 % N then nI k else fh p N f (k + 1)) = nI L
      by_cases c : L ≤ k
      · rw [if_pos ((e k (by omega)).mpr c), show k = L by omega]
      · rw [if_neg (fun w => c ((e k (by omega)).mp w))]
        exact ih (k + 1) (by omega) (by omega)
  exact st 4 0 (by omega) (by omega)
set_option maxHeartbeats 1000000 in
theorem f_least [NeZero p] {T x L d' : Nat} {X : TR p D h} {post : Option Value → Me → Prop} (hK : Ksp K) (hF : FcM M) (hT : TwM M T) (hT37 : 37 ≤ T) (hA : TwA I T p h D) (hx : rc M x) (fx : x < 13 ∨ 36 < x) (fx2 : x ≠ T + 10) (hX : Re I p D h x X) (hLv : lvU (I x) 8 = L) (hL : Lev p D h X L) (hLh : L ≤ h) (hx0 : ¬ X = ((TI p D h).ofNat 0).ofNat) (hd : d + 4 ≤ d') (hp : ∀ I1 J1, (∀ a, a ≠ 35 → a ≠ T + 10 → I1 a = I a) → post (some (.int (oF p D h X 4000 1))) (St M I1 J1)) : Ok K d' 4 [.ref 12, .ref T, .ref x] (St M I J) post := by
  refine Ok.up (d := d + 4) (post := post) ?_ hd (fun _ _ h => h)
  have r3 := hF.2.2.2.2.1.1
  have r35 : rc M 35 := hF.rc (by omega)
  obtain ⟨hI, hTF, hTB, hTk, hpr, hodd⟩ := hA
  have hh3 := hI.2.2.1
  have pb := hI.2.2.2.1
  refine Ok.go (e := me_4) rfl rfl (Nat.le_of_ble_eq_true rfl) hF.1 ?_
  have key : ∀ f k, f + k = 4001 → 1 ≤ k → (∀ c, 0 < c → c < k → ¬ @pw (TR p D h) (TI p D h) X c = ((TI p D h).ofNat 1).ofNat) → (∀ I1 J1, (∀ a, a ≠ 35 → a ≠ T + 10 → I1 a = I a) → post (some (.int (oF p D h X f k))) (St M I1 J1)) → ∀ I1 J1, (∀ a, a ≠ 35 → a ≠ T + 10 → I1 a = I a) → Rf K (d + 3) mc_4 6 (lk [(4, .int (nI k)), (3, .int (nI L)), (0, .ref 12), (1, .ref T), (2, .ref x)]) [] (St M I1 J1) (fun r M1 => rok me_4.2.2.2.1 r = true ∧ post r M1) := by
    intro f
    induction f with
    | zero =>
      intro k hk k1 hno hp I1 J1 hf
      rw [show k = 4001 by omega]
      refine Rf.go 100 [6] ?_
      exact And.intro (fun _ => ⟨rfl, hp I1 J1 hf⟩) (fun q => absurd (by decide) q)
    | succ f ih =>
      intro k hk k1 hno hp I1 J1 hf
      have hI1 : TwI I1 T p h D := hI.keep (hf _ (by omega) (by omega)) (hf _ (by omega) (by omega))
      have hX1 : Re I1 p D h x X := hX.keep (hf _ (by omega) (by omega))
      have next : ¬ @pw (TR p D h) (TI p D h) X k = ((TI p D h).ofNat 1).ofNat → ∀ I1 J1, (∀ a, a ≠ 35 → a ≠ T + 10 → I1 a = I a) → Rf K (d + 3) mc_4 29 (lk [(4, .int (nI k)), (3, .int (nI L)), (0, .ref 12), (1, .ref T), (2, .ref x)]) [] (St M I1 J1) (fun r M1 => rok me_4.2.2.2.1 r = true ∧ post r M1) := by
        intro hk1 I1 J1 hf
        refine Rf.go 100 [6] ?_
        refine Rf.weak [(4, .int (nI (k + 1))), (3, .int (nI L)), (0, .ref 12), (1, .ref T), (2, .ref x)] ⟨inc1 k, rfl, rfl, rfl, rfl, trivial⟩ (ih (k + 1) (by omega) (by omega) (fun c h1 h2 => ?_) (fun I2 J2 hf2 => ?_) I1 J1 hf)
        · by_cases e : c = k
          · rw [e]; exact hk1
          · exact hno c h1 (by omega)
        · have hp := hp I2 J2 hf2
          rw [show oF p D h X (f + 1) k = oF p D h X f (k + 1) from if_neg hk1] at hp
          exact hp
      refine Rf.go 100 [6, 29] ?_
      refine And.intro (fun q => ?_) (fun _ => ?_)
      · have q : Int32.ofInt 4000 < nI k := of_decide_eq_true q
        exact absurd ((nI_ltI (a := 4000) (by decide) (by omega)).mp q) (by omega)
      refine And.intro hT.1 ?_
      refine f_first (d := d) (p := p) (N := k) hI1.1 rfl k1 (by omega) (by omega) (by omega) ?_
      refine And.intro (fun q => ?_) (fun q => ?_)
      · have q : ¬ fh p k 4 0 = nI L := of_decide_eq_true q
        exact Rf.weak [(4, .int (nI k)), (3, .int (nI L)), (0, .ref 12), (1, .ref T), (2, .ref x)] ⟨rfl, rfl, rfl, rfl, rfl, trivial⟩ (next (fun w => q (fh_ord hpr hodd hTk hh3 hL hLh hx0 ⟨k1, w, fun c h1 h2 => hno c h1 h2⟩)) I1 J1 hf)
      · refine And.intro hF.1 ⟨35, r3, ?_⟩
        refine (e_raise (K := K) (d := d) (J := J1) (n := k) hK hT hI1 hx r35 hX1 (by omega) (Or.inl (by omega))).up (by omega) ?_
        rintro r M1 ⟨rfl, I2, J2, rfl, hR2, hf2⟩
        have hf3 : ∀ a, a ≠ 35 → a ≠ T + 10 → I2 a = I a := fun a h1 h2 => (hf2 a h1 h2).trans (hf a h1 h2)
        refine And.intro hF.1 ⟨35, r3, ?_⟩
        refine (t_isResidue (d := d) hT.1 (by omega) hh3 pb.2 r35 hR2).up (by omega) ?_
        rintro r M1 ⟨rfl, b, rfl, hb⟩
        cases b with
        | true =>
          have hp := hp I2 J2 hf3
          rw [show oF p D h X (f + 1) k = nI k from if_pos (hb.mp rfl)] at hp
          exact And.intro (fun w => absurd w (by decide)) (fun _ => ⟨rfl, hp⟩)
        | false =>
          refine And.intro (fun _ => ?_) (fun w => absurd (by decide) w)
          exact Rf.weak [(4, .int (nI k)), (3, .int (nI L)), (0, .ref 12), (1, .ref T), (2, .ref x)] ⟨rfl, rfl, rfl, rfl, rfl, trivial⟩ (next (fun w => by cases hb.mpr w) I2 J2 hf3)
  refine Rf.go 100 [6] ?_
  refine (t_levelOf (d := d) hT.1 hx).up (by omega) ?_
  rintro r M1 ⟨rfl, rfl⟩
  rw [← hLv] at key
  exact Rf.weak [(4, .int (nI 1)), (3, .int (nI (lvU (I x) 8))), (0, .ref 12), (1, .ref T), (2, .ref x)] ⟨rfl, rfl, rfl, rfl, rfl, trivial⟩ (key 4000 1 rfl (Nat.le_refl _) (fun c h1 h2 => absurd h2 (by omega)) hp I J (fun _ _ _ => rfl))
theorem c_order [NeZero p] {d' : Nat} {post : Option Value → Me → Prop} (hK : Kst K) (hM : CtM M o o2) (hF : FcM M) (hR : CR I o p D h n kd tl V g) (hd : d + 5 ≤ d') (hp : ∀ I1 J1, QfC I I1 o → post (some (.int (orA p D h n kd V t))) (St M I1 J1)) : Ok K d' 87 [.ref 8, .int t] (St M I J) post := by
  refine Ok.up (d := d + 5) (post := post) ?_ hd (fun _ _ h => h)
  obtain ⟨hC, ⟨r0, r1, r2, r3⟩, hS, hH, hH2, hoo⟩ := hM
  obtain ⟨⟨s1, s2, s3⟩, hTw, hv, hg⟩ := hR
  have hkd : ∀ s, s < n → I (9 + 1) s = nI (kd s) ∧ kd s < 14 := fun s hs => (s3 s hs).1
  have hp0 := hp I J (fun _ _ _ _ _ => rfl)
  refine Ok.go (e := me_87) rfl rfl (Nat.le_of_ble_eq_true rfl) hC ?_
  refine Rf.go 100 [] ?_
  refine And.intro hC ⟨9, r0, ?_⟩
  refine s_sortAny (d := d) hK hS s1 s2 hkd (by omega) (fun a ha hat => ?_) (fun hna => ?_)
  · have ha4 := srt_lt (kd a) (s3 a ha).1.2
    subst hat
    refine And.intro (fun q => ?_) (fun q => ?_)
    · have q : nI (srt (kd a)) = 0 := of_decide_eq_true q
      have qa : srt (kd a) = 0 := (nI_eq (b := 0) (by omega) (by decide)).mp q
      have hva := hv a ha 0 (by show 0 < szs (srt (kd a)); rw [qa]; decide)
      have hRe : Re I p D h (o + 26 + 3 * a + 0) (oV p D h (V a 0)) := hva.1.re hva.2
      obtain ⟨hL, hLh⟩ := lvN_Lev (D := D) hva.2 hTw.1.2.2.1 hTw.1.2.2.2.1.2
      have e : orA p D h n kd V (nI a) = _ := if_pos ⟨a, ha, rfl, qa⟩
      rw [clp_n (show a < 2 ^ 31 by omega)] at e
      rw [e] at hp hp0
      refine And.intro hC ⟨o, r2, ?_⟩
      refine (h_row (d := d) (t := a) (i := 0) hH (by omega) (by omega) rfl rfl).up (by omega) ?_
      rintro r M1 ⟨rfl, rfl⟩
      refine And.intro hC ⟨o, r2, ?_⟩
      refine And.intro hH.c ⟨o + 1, hH.r0, ?_⟩
      refine (t_isZeroE (d := d) hH.tc (hH.rc (by omega)) hTw.1.2.2.1 hTw.1.2.2.2.1.2 hRe).up (by omega) ?_
      rintro r M1 ⟨rfl, ⟨hz, rfl⟩ | ⟨hz, rfl⟩⟩
      · rw [if_pos hz] at hp0
        exact And.intro (fun w => absurd w (by decide)) (fun _ => ⟨rfl, hp0⟩)
      · refine And.intro (fun _ => ?_) (fun w => absurd (by decide) w)
        rw [if_neg hz] at hp
        refine And.intro hC ⟨12, r1, ?_⟩
        refine And.intro hC ⟨o, r2, ?_⟩
        refine And.intro hH.c ⟨o + 1, hH.r0, ?_⟩
        exact f_least (d := d) hK.1 hF hH.tw (by omega) hTw (hH.rc (by omega)) (by omega) (by omega) hRe (lvN_re hva.1) hL hLh hz (by omega) (fun I1 J1 hf => ⟨rfl, hp I1 J1 (fun x h1 h2 h3 h4 => hf x (by omega) (by omega))⟩)
    · have qa : ¬ srt (kd a) = 0 := fun w => q (decide_eq_true (by rw [w]; rfl))
      rw [show orA p D h n kd V (nI a) = Int32.ofInt (-1) from if_neg (fun w => qa ((isT_n ha s2).mp w))] at hp0
      exact ⟨rfl, hp0⟩
  · rw [show orA p D h n kd V t = Int32.ofInt (-1) from if_neg (isT_no hna)] at hp0
    exact And.intro (fun w => absurd w (by decide)) (fun _ => ⟨rfl, hp0⟩)
set_option maxHeartbeats 1000000 in
theorem m_order' [NeZero p] {d' : Nat} {post : Option Value → Me → Prop} (hM : MoM M m) (hR : MR I m p D h n kd tl V g) (hd : d + 3 ≤ d') (hp : ∀ G1 J1, post (some (.int (orA p D h n kd V t))) (St M (rg I m G1) J1)) : Ok K d' 159 [.ref m, .int t] (St M (rg I m G) J) post := by
  refine Ok.up (d := d + 3) (post := post) ?_ hd (fun _ _ h => h)
  obtain ⟨mA, mT, mS, mV, mB⟩ := hR
  have n6 := mT.2.1
  have hh3 := mA.1.2.2.1
  have pb := mA.1.2.2.2.1
  refine Ok.go (e := me_159) rfl rfl (Nat.le_of_ble_eq_true rfl) hM.c ?_
  refine Rf.go 100 [28] ?_
  refine m_isOf (d := d) (s := 0) hM mT.rg rfl (by decide) (by omega) (fun q => ?_) (fun q => ?_)
  · rw [show orA p D h n kd V t = _ from if_pos q] at hp
    obtain ⟨a, ha, rfl, qa⟩ := q
    rw [clp_n (show a < 2 ^ 31 by omega)] at hp
    generalize hX : oV p D h (V a 0) = X at hp
    have hvX : ∀ j, j < 8 → I (m + 7) (24 * a + 8 * 0 + j) = vE p D h X j := by rw [← hX]; exact mV.v ha (by decide)
    refine And.intro (fun _ => ?_) (fun w => absurd (by decide) w)
    refine x_loadE (d := d) (r := 3) (a := a) (k := 0) (v := vE p D h X) hM rfl rfl rfl (by decide) (by omega) (by decide) hvX (by omega) (fun G1 J1 q1 f1 => ?_)
    refine m_isZero (d := d) (a := 3) hM rfl (by decide) hh3 pb.2 q1 (by omega) (fun z => ?_) (fun z => ?_)
    · rw [if_pos z] at hp
      exact And.intro (fun w => absurd w (by decide)) (fun _ => ⟨rfl, hp G1 J1⟩)
    · rw [if_neg z] at hp
      have key : ∀ f k, f + k = 4000 → 1 ≤ k → (∀ G1 J1, post (some (.int (oF p D h X (f + 1) k))) (St M (rg I m G1) J1)) → ∀ G1 J1, G1 3 = vE p D h X → G1 4 = vE p D h ((TI p D h).ofNat 1).ofNat → G1 5 = vE p D h (@pw (TR p D h) (TI p D h) X k) → Rf K (d + 2) mc_159 28 (lk [(2, .int (nI k)), (0, .ref m)]) [] (St M (rg I m G1) J1) (fun r M1 => rok me_159.2.2.2.1 r = true ∧ post r M1) := by
        intro f
        induction f with
        | zero =>
          intro k hk k1 hp G1 J1 g3 g4 g5
          have hk : k = 4000 := by omega
          refine Rf.go 100 [28] ?_
          refine And.intro (fun _ => ?_) (fun w => absurd ((geN (n := 4000) (by omega) (by decide)).mpr (by omega)) w)
          refine m_isSame (d := d) (a := 5) (b := 4) hM rfl rfl (by decide) (by decide) hh3 pb.2 g5 g4 (by omega) (fun z => ?_) (fun z => ?_)
          · rw [show oF p D h X (0 + 1) k = nI k from if_pos z] at hp
            exact And.intro (fun w => absurd w (by decide)) (fun _ => ⟨rfl, hp G1 J1⟩)
          · rw [show oF p D h X (0 + 1) k = Int32.ofInt (-7) from if_neg z] at hp
            exact And.intro (fun _ => ⟨rfl, hp G1 J1⟩) (fun w => absurd (by decide) w)
        | succ f ih =>
          intro k hk k1 hp G1 J1 g3 g4 g5
          refine Rf.go 100 [28] ?_
          refine And.intro (fun w => absurd ((geN (n := 4000) (by omega) (by decide)).mp w) (by omega)) (fun _ => ?_)
          refine m_isSame (d := d) (a := 5) (b := 4) hM rfl rfl (by decide) (by decide) hh3 pb.2 g5 g4 (by omega) (fun z => ?_) (fun z => ?_)
          · refine And.intro (fun _ => ?_) (fun w => absurd (by decide) w)
            refine m_isSame (d := d) (a := 5) (b := 4) hM rfl rfl (by decide) (by decide) hh3 pb.2 g5 g4 (by omega) (fun _ => ?_) (fun w => absurd z w)
            rw [show oF p D h X (f + 1 + 1) k = nI k from if_pos z] at hp
            exact And.intro (fun w => absurd w (by decide)) (fun _ => ⟨rfl, hp G1 J1⟩)
          · refine And.intro (fun w => absurd w (by decide)) (fun _ => ?_)
            rw [show oF p D h X (f + 1 + 1) k = oF p D h X (f + 1) (k + 1) from if_neg z] at hp
            refine x_times (d := d) (r := 5) (a := 5) (b := 3) hM mA.1 rfl rfl rfl (by decide) (by decide) (by decide) g5 g3 (by omega) (fun G2 J2 q2 f2 => ?_)
            exact Rf.weak [(2, .int (nI (k + 1))), (0, .ref m)] ⟨inc1 k, rfl, trivial⟩ (ih (k + 1) (by omega) (by omega) hp G2 J2 ((f2 3 (by decide)).trans g3) ((f2 4 (by decide)).trans g4) q2)
      refine And.intro (fun _ => ?_) (fun w => absurd (by decide) w)
      refine x_set1 (d := d) (r := 4) (p := p) (D := D) (h := h) hM rfl (by decide) (by omega) (by omega) (fun G2 J2 q2 f2 => ?_)
      refine x_copy (d := d) (r := 5) (a := 3) hM rfl rfl (by decide) (by decide) (by omega) (fun G3 J3 q3 f3 => ?_)
      refine Rf.weak [(2, .int (nI 1)), (0, .ref m)] ⟨rfl, rfl, trivial⟩ (key 3999 1 rfl (Nat.le_refl _) hp G3 J3 ((f3 3 (by decide)).trans ((f2 3 (by decide)).trans q1)) ((f3 4 (by decide)).trans q2) ?_)
      rw [q3, f2 3 (by decide), q1, @pw_1 (TR p D h) (TI p D h)]
  · rw [show orA p D h n kd V t = Int32.ofInt (-1) from if_neg q] at hp
    exact And.intro (fun w => absurd w (by decide)) (fun _ => ⟨rfl, hp G J⟩)
theorem m_order [NeZero p] {d' : Nat} {post : Option Value → Me → Prop} (hM : MoM M m) (hR : MR I m p D h n kd tl V g) (hd : d + 3 ≤ d') (hp : ∀ I1 J1, QfM I I1 m → post (some (.int (orA p D h n kd V t))) (St M I1 J1)) : Ok K d' 159 [.ref m, .int t] (St M I J) post := by
  have w := m_order' (K := K) (d := d) (d' := d') (J := J) (post := post) (t := t) (G := fun r j => I (m + 11) (8 * r + j)) hM hR hd (fun G1 J1 => hp _ J1 QfM.rg)
  rw [rg_self] at w
  exact w
end Qh
