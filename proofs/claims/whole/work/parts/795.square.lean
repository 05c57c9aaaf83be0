/-! corners, square -/
def fh (p N : Nat) : Nat → Nat → Int32
  | 0, _ => Int32.ofInt (-7)
  | f + 1, k => if p ^ 2 ^ k % N = 1 % N then nI k else fh p N f (k + 1)
def crA (p : Nat) (x : Int32) : Int32 := if x < Int32.ofInt 3 then Int32.ofInt (-1) else fh p (clp x) 4 0
noncomputable def sqA (p : Nat) [NeZero p] (D : Nat → Nat → Nat) (h n : Nat) (kd : Nat → Nat) (V : Nat → Nat → Nat → Nat) (t k : Int32) : Int32 := @ite _ (isT n kd t 0 ∧ inL k (h + 1) ∧ lvN (V (clp t) 0) ≤ clp k) (Classical.propDecidable _) (@ite _ (@Sq (TR p D (clp k)) (TI p D (clp k)) (oV p D (clp k) (V (clp t) 0))) (Classical.propDecidable _) (Int32.ofInt 1) (Int32.ofInt 0)) (Int32.ofInt (-1))
theorem lcmp_neN {a b : Nat} (ha : a < 2 ^ 31) (hb : b < 2 ^ 31) : cmpI .ne (lg_cmp (lN a) (lN b)) 0 = true ↔ a ≠ b := by
  have h1 := lg_cmp_eq (lN a) (lN b)
  have h2 := lN_eq (a := a) (b := b) ha hb
  constructor
  · intro q e
    have q : ¬ lg_cmp (lN a) (lN b) = 0 := of_decide_eq_true q
    exact q (h1.mpr (h2.mpr e))
  · intro q
    exact decide_eq_true (fun e => q (h2.mp (h1.mp e)))
theorem pow2s (p k N : Nat) : (p ^ 2 ^ k % N) * (p ^ 2 ^ k % N) % N = p ^ 2 ^ (k + 1) % N := by
  rw [← Nat.mul_mod, Nat.pow_succ, Nat.pow_mul, Nat.pow_two]
theorem ge3 {x : Int32} (h : Int32.ofInt 3 ≤ x) : ∃ N, 3 ≤ N ∧ N < 2 ^ 31 ∧ x = nI N := by
  have h' := h
  rw [Int32.le_iff_toInt_le] at h'
  have h' : (3 : Int) ≤ x.toInt := h'
  obtain ⟨j, hj, rfl⟩ := nI_of (x := x) (fun q => by
    rw [Int32.lt_iff_toInt_lt] at q
    have q : x.toInt < 0 := q
    omega)
  exact ⟨j, (nI_leI (a := 3) (by decide) hj).mp h, hj, rfl⟩
section Qf
variable {K : Ka} {d o o2 m p h n : Nat} {M : Me} {I : Nat → Nat → Int32} {J : Nat → Nat → Int64} {D : Nat → Nat → Nat} {kd : Nat → Nat} {tl : Nat → Nat → Int32} {V : Nat → Nat → Nat → Nat} {g : Nat → Nat} {s t : Int32}
theorem f_first {N d' : Nat} {z w : Int32} {Mx : Me} {post : Option Value → Me → Prop} (hz : z = nI p) (hw : w = nI N) (hN : 1 ≤ N) (hN2 : N < 2 ^ 31) (hp2 : p < 2 ^ 31) (hd : d + 1 ≤ d') (hp : post (some (.int (fh p N 4 0))) Mx) : Ok K d' 5 [.int z, .int w] Mx post := by
  refine Ok.up (d := d + 1) (post := post) ?_ hd (fun _ _ h => h)
  subst hz hw
  have hN0 : ¬ nI N = 0 := fun q => by have := (nI_eq (b := 0) hN2 (by decide)).mp q; omega
  have hL0 : ¬ (nI N).toInt64 = 0 := fun q => by
    rw [nI_l hN2] at q
    have := (lN_eq (b := 0) hN2 (by decide)).mp q
    omega
  refine Ok.go (e := me_5) rfl rfl (Nat.le_of_ble_eq_true rfl) rfl ?_
  have key : ∀ f k, f + k = 4 → post (some (.int (fh p N f k))) Mx → Rf K d mc_5 12 (lk [(4, .int (nI k)), (2, .long (lN (p ^ 2 ^ k % N))), (1, .int (nI N))]) [] Mx (fun r M1 => rok me_5.2.2.2.1 r = true ∧ post r M1) := by
    intro f
    induction f with
    | zero =>
      intro k hk hp
      rw [show k = 4 by omega]
      refine Rf.go 100 [12] ?_
      exact And.intro (fun _ => ⟨rfl, hp⟩) (fun q => absurd (by decide) q)
    | succ f ih =>
      intro k hk hp
      have hp : post (some (.int (if p ^ 2 ^ k % N = 1 % N then nI k else fh p N f (k + 1)))) Mx := hp
      have hx : p ^ 2 ^ k % N < N := Nat.mod_lt _ hN
      have h1 : 1 % N < 2 ^ 31 := Nat.lt_of_lt_of_le (Nat.mod_lt _ hN) (Nat.le_of_lt hN2)
      have er : (Int32.ofInt 1 - Int32.ofInt 1 / nI N * nI N).toInt64 = lN (1 % N) := by
        rw [show Int32.ofInt 1 = nI 1 from rfl, pk_rem (by decide) hN hN2, nI_l h1]
      have hsq : p ^ 2 ^ k % N * (p ^ 2 ^ k % N) < 2 ^ 63 := Nat.lt_of_le_of_lt (Nat.mul_le_mul (Nat.le_of_lt (Nat.lt_trans hx hN2)) (Nat.le_of_lt (Nat.lt_trans hx hN2))) (by decide)
      have em : lN (p ^ 2 ^ k % N) * lN (p ^ 2 ^ k % N) - lN (p ^ 2 ^ k % N) * lN (p ^ 2 ^ k % N) / (nI N).toInt64 * (nI N).toInt64 = lN (p ^ 2 ^ (k + 1) % N) := by
        rw [nI_l hN2, lN_mul, pk_lRem hsq hN (by omega), pow2s]
      refine Rf.go 100 [12] ?_
      refine And.intro (fun q => ?_) (fun _ => ?_)
      · have q : Int32.ofInt 3 < nI k := of_decide_eq_true q
        exact absurd ((nI_ltI (a := 3) (by decide) (by omega)).mp q) (by omega)
      refine And.intro hN0 ?_
      refine And.intro (fun q => ?_) (fun q => ?_)
      · have q : cmpI .ne (lg_cmp (lN (p ^ 2 ^ k % N)) (Int32.ofInt 1 - Int32.ofInt 1 / nI N * nI N).toInt64) 0 = true := q
        rw [er, lcmp_neN (by omega) h1] at q
        rw [if_neg q] at hp
        refine And.intro hL0 ?_
        exact Rf.weak [(4, .int (nI (k + 1))), (2, .long (lN (p ^ 2 ^ (k + 1) % N))), (1, .int (nI N))] ⟨inc1 k, congrArg (fun z => some (Value.long z)) em, rfl, trivial⟩ (ih (k + 1) (by omega) hp)
      · have q : ¬ cmpI .ne (lg_cmp (lN (p ^ 2 ^ k % N)) (Int32.ofInt 1 - Int32.ofInt 1 / nI N * nI N).toInt64) 0 = true := q
        rw [er, lcmp_neN (by omega) h1] at q
        rw [if_pos (Classical.not_not.mp q)] at hp
        exact ⟨rfl, hp⟩
  refine Rf.go 100 [12] ?_
  refine And.intro (fun _ => ?_) (fun q => absurd ((geN (n := 1) hN2 (by decide)).mpr hN) q)
  refine And.intro hN0 ?_
  refine Rf.weak [(4, .int (nI 0)), (2, .long (lN (p ^ 2 ^ 0 % N))), (1, .int (nI N))] ⟨rfl, congrArg (fun z => some (Value.long z)) ?_, rfl, trivial⟩ (key 4 0 rfl hp)
  rw [pk_rem hp2 hN hN2, nI_l (Nat.lt_of_lt_of_le (Nat.mod_lt _ hN) (Nat.le_of_lt hN2)), Nat.pow_zero, Nat.pow_one]
theorem c_corners [NeZero p] {d' : Nat} {post : Option Value → Me → Prop} (hM : CtM M o o2) (hR : CR I o p D h n kd tl V g) (hd : d + 2 ≤ d') (hp : post (some (.int (crA p t))) (St M I J)) : Ok K d' 88 [.ref 8, .int t] (St M I J) post := by
  refine Ok.up (d := d + 2) (post := post) ?_ hd (fun _ _ h => h)
  obtain ⟨hC, ⟨r0, r1, r2, r3⟩, hS, hH, hH2, hoo⟩ := hM
  obtain ⟨hSt, hTw, hv, hg⟩ := hR
  have pb := hTw.1.2.2.2.1.2
  refine Ok.go (e := me_88) rfl rfl (Nat.le_of_ble_eq_true rfl) hC ?_
  refine Rf.go 100 [] ?_
  refine And.intro (fun q => ?_) (fun q => ?_)
  · have q : Int32.ofInt 3 ≤ t := of_decide_eq_true q
    obtain ⟨N, h3, hN, rfl⟩ := ge3 q
    rw [show crA p (nI N) = fh p N 4 0 from (if_neg (fun w => absurd ((nI_ltI (b := 3) hN (by decide)).mp w) (by omega))).trans (by rw [clp_n hN])] at hp
    refine And.intro hC ⟨o, r2, ?_⟩
    refine And.intro hH.c ⟨o + 1, hH.r0, ?_⟩
    refine And.intro hH.tc ?_
    exact f_first (d := d) (p := p) (N := N) (show I (o + 1) 0 = nI p from hTw.1.1) rfl (by omega) hN (by omega) (by omega) ⟨rfl, hp⟩
  · have q : t < Int32.ofInt 3 := Int32.not_le.mp (fun w => q (decide_eq_true w))
    rw [show crA p t = Int32.ofInt (-1) from if_pos q] at hp
    exact ⟨rfl, hp⟩
theorem m_corners [NeZero p] {d' : Nat} {post : Option Value → Me → Prop} (hM : MoM M m) (hR : MR I m p D h n kd tl V g) (hd : d + 1 ≤ d') (hp : post (some (.int (crA p t))) (St M I J)) : Ok K d' 160 [.ref m, .int t] (St M I J) post := by
  refine Ok.up (d := d + 1) (post := post) ?_ hd (fun _ _ h => h)
  obtain ⟨mA, mT, mS, mV, mB⟩ := hR
  have pb := mA.1.2.2.2.1.2
  refine Ok.go (e := me_160) rfl rfl (Nat.le_of_ble_eq_true rfl) hM.c ?_
  refine Rf.go 100 [13] ?_
  refine And.intro (fun q => ?_) (fun q => ?_)
  · have q : Int32.ofInt 3 ≤ t := of_decide_eq_true q
    obtain ⟨N, h3, hN, rfl⟩ := ge3 q
    rw [show crA p (nI N) = fh p N 4 0 from (if_neg (fun w => absurd ((nI_ltI (b := 3) hN (by decide)).mp w) (by omega))).trans (by rw [clp_n hN])] at hp
    have hN0 : ¬ nI N = 0 := fun q => by have := (nI_eq (b := 0) hN (by decide)).mp q; omega
    have hL0 : ¬ (nI N).toInt64 = 0 := fun q => by
      rw [nI_l hN] at q
      have := (lN_eq (b := 0) hN (by decide)).mp q
      omega
    have key : ∀ f k, f + k = 4 → post (some (.int (fh p N f k))) (St M I J) → Rf K d mc_160 13 (lk [(4, .int (nI k)), (2, .long (lN (p ^ 2 ^ k % N))), (1, .int (nI N))]) [] (St M I J) (fun r M1 => rok me_160.2.2.2.1 r = true ∧ post r M1) := by
      intro f
      induction f with
      | zero =>
        intro k hk hp
        rw [show k = 4 by omega]
        refine Rf.go 100 [13] ?_
        exact And.intro (fun _ => ⟨rfl, hp⟩) (fun q => absurd (by decide) q)
      | succ f ih =>
        intro k hk hp
        have hp : post (some (.int (if p ^ 2 ^ k % N = 1 % N then nI k else fh p N f (k + 1)))) (St M I J) := hp
        rw [show 1 % N = 1 from Nat.mod_eq_of_lt (by omega)] at hp
        have hx : p ^ 2 ^ k % N < N := Nat.mod_lt _ (by omega)
        have hsq : p ^ 2 ^ k % N * (p ^ 2 ^ k % N) < 2 ^ 63 := Nat.lt_of_le_of_lt (Nat.mul_le_mul (Nat.le_of_lt (Nat.lt_trans hx hN)) (Nat.le_of_lt (Nat.lt_trans hx hN))) (by decide)
        have em : lN (p ^ 2 ^ k % N) * lN (p ^ 2 ^ k % N) - lN (p ^ 2 ^ k % N) * lN (p ^ 2 ^ k % N) / (nI N).toInt64 * (nI N).toInt64 = lN (p ^ 2 ^ (k + 1) % N) := by
          rw [nI_l hN, lN_mul, pk_lRem hsq (by omega) (by omega), pow2s]
        refine Rf.go 100 [13] ?_
        refine And.intro (fun q => absurd ((geN (n := 4) (by omega) (by decide)).mp q) (by omega)) (fun _ => ?_)
        refine And.intro (fun q => ?_) (fun q => ?_)
        · have q := (lcmp_neN (b := 1) (by omega) (by decide)).mp q
          rw [if_neg q] at hp
          refine And.intro hL0 ?_
          exact Rf.weak [(4, .int (nI (k + 1))), (2, .long (lN (p ^ 2 ^ (k + 1) % N))), (1, .int (nI N))] ⟨inc1 k, congrArg (fun z => some (Value.long z)) em, rfl, trivial⟩ (ih (k + 1) (by omega) hp)
        · have q := fun w => q ((lcmp_neN (b := 1) (by omega) (by decide)).mpr w)
          rw [if_pos (Classical.not_not.mp q)] at hp
          exact ⟨rfl, hp⟩
    refine And.intro hM.c ?_
    refine And.intro hN0 ?_
    refine Rf.weak [(4, .int (nI 0)), (2, .long (lN (p ^ 2 ^ 0 % N))), (1, .int (nI N))] ⟨rfl, congrArg (fun z => some (Value.long z)) ?_, rfl, trivial⟩ (key 4 0 rfl hp)
    show (I m 0 - I m 0 / nI N * nI N).toInt64 = _
    rw [mA.1.1, pk_rem (by omega) (by omega) hN, nI_l (Nat.lt_of_lt_of_le (Nat.mod_lt _ (by omega)) (Nat.le_of_lt hN)), Nat.pow_zero, Nat.pow_one]
  · have q : t < Int32.ofInt 3 := Int32.not_le.mp (fun w => q (decide_eq_true w))
    rw [show crA p t = Int32.ofInt (-1) from if_pos q] at hp
    exact ⟨rfl, hp⟩
theorem vOk.lv {v : Nat → Nat} {c : Nat} (hv : vOk p h v) (hh : h ≤ 3) (hp : p ≤ 32749) (hl : lvN v ≤ c) : vOk p c v := by
  refine ⟨hv.1, fun j hj => ?_⟩
  have hw := w8 hh
  by_cases c8 : j < 8
  · have h1 := (lvU_sp (fun j => nI (v j)) 8 (by omega)).1 j c8 (Nat.le_trans (Nat.pow_le_pow_right (by decide) hl) hj)
    have := hv.1 j
    exact (nI_eq (b := 0) (by omega) (by decide)).mp h1
  · exact hv.2 j (by omega)
theorem c_square [NeZero p] {d' : Nat} {post : Option Value → Me → Prop} (hK : Kst K) (hM : CtM M o o2) (hR : CR I o p D h n kd tl V g) (hd : d + 3 ≤ d') (hp : ∀ I1 J1, QfC I I1 o → post (some (.int (sqA p D h n kd V s t))) (St M I1 J1)) : Ok K d' 83 [.ref 8, .int s, .int t] (St M I J) post := by
  refine Ok.up (d := d + 3) (post := post) ?_ hd (fun _ _ h => h)
  obtain ⟨hC, ⟨r0, r1, r2, r3⟩, hS, hH, hH2, hoo⟩ := hM
  obtain ⟨⟨s1, s2, s3⟩, hTw, hv, hg⟩ := hR
  have hkd : ∀ s, s < n → I (9 + 1) s = nI (kd s) ∧ kd s < 14 := fun s hs => (s3 s hs).1
  have no : ¬ (isT n kd s 0 ∧ inL t (h + 1) ∧ lvN (V (clp s) 0) ≤ clp t) → sqA p D h n kd V s t = Int32.ofInt (-1) := fun q => if_neg q
  have hp0 := hp I J (fun _ _ _ _ _ => rfl)
  obtain ⟨hTI, hTF, hTB, hTk, hpr, hodd⟩ := hTw
  have hh3 := hTI.2.2.1
  have pb := hTI.2.2.2.1.2
  refine Ok.go (e := me_83) rfl rfl (Nat.le_of_ble_eq_true rfl) hC ?_
  refine Rf.go 100 [] ?_
  refine And.intro hC ⟨9, r0, ?_⟩
  refine s_sortAny (d := d) hK hS s1 s2 hkd (by omega) (fun a ha hat => ?_) (fun hna => ?_)
  · have ha4 := srt_lt (kd a) (s3 a ha).1.2
    subst hat
    have ca : clp (nI a) = a := clp_n (by omega)
    rw [ca] at no
    refine And.intro (fun q => ?_) (fun q => ?_)
    · have q : nI (srt (kd a)) = 0 := of_decide_eq_true q
      have qa : srt (kd a) = 0 := (nI_eq (b := 0) (by omega) (by decide)).mp q
      have hva := hv a ha 0 (by show 0 < szs (srt (kd a)); rw [qa]; decide)
      have lb := lvN_le (V a 0)
      refine And.intro hC ⟨o, r2, ?_⟩
      refine (h_row (d := d) (t := a) (i := 0) hH (by omega) (by omega) rfl rfl).up (by omega) ?_
      rintro r M1 ⟨rfl, rfl⟩
      refine And.intro hC ⟨o, r2, ?_⟩
      refine And.intro hH.c ⟨o + 1, hH.r0, ?_⟩
      refine And.intro hH.tc ?_
      refine And.intro (fun q => ?_) (fun q => ?_)
      · have q : I (o + 1) 1 < t := of_decide_eq_true q
        rw [hTI.2.1] at q
        rw [no (fun w => by
          obtain ⟨c, hc, e⟩ := w.2.1
          rw [e] at q
          exact absurd ((nI_ltI (by omega) (by omega)).mp q) (by omega))] at hp0
        exact ⟨rfl, hp0⟩
      have q : ¬ nI h < t := fun w => q (decide_eq_true (show I (o + 1) 1 < t by rw [hTI.2.1]; exact w))
      refine And.intro hC ⟨o, r2, ?_⟩
      refine And.intro hH.c ⟨o + 1, hH.r0, ?_⟩
      refine (t_levelOf (d := d) hH.tc (hH.rc (by omega))).up (by omega) ?_
      rintro r M1 ⟨hr, rfl⟩
      rw [lvN_re hva.1] at hr
      subst hr
      refine And.intro (fun w => ?_) (fun w => ?_)
      · have w : nI (lvN (V a 0)) ≤ t := of_decide_eq_true w
        have t0 : ¬ t < 0 := fun v => by
          have h1 := Int32.lt_of_le_of_lt w v
          exact nI_pos (by omega) h1
        obtain ⟨c, hc, rfl⟩ := nI_of t0
        have q : c ≤ h := by
          apply Classical.byContradiction
          intro v
          exact q (nI_lt (by omega) hc)
        have w := (nI_leI (by omega) hc).mp w
        have cc : clp (nI c) = c := clp_n hc
        have e : sqA p D h n kd V (nI a) (nI c) = _ := if_pos ⟨⟨a, ha, rfl, qa⟩, ⟨c, by omega, rfl⟩, by rw [ca, cc]; exact w⟩
        rw [ca, cc] at e
        have hvk : vOk p c (V a 0) := hva.2.lv hh3 pb w
        refine And.intro hC ⟨o, r2, ?_⟩
        refine And.intro hH.c ⟨o + 1, hH.r0, ?_⟩
        refine (e_isSq (d := d) (k := c) (X := oV p D c (V a 0)) hpr hodd hK.1 hH.tw hTI (hTk.le q) q (hH.rc (by omega)) (hva.1.re hvk)).up (by omega) ?_
        rintro r M1 ⟨I1, J1, b, rfl, rfl, hb, hf⟩
        have hp := hp I1 J1 (fun x h1 h2 h3 h4 => hf x (by omega) (by omega))
        rw [e] at hp
        cases b with
        | true =>
          rw [if_pos (hb.mp rfl)] at hp
          exact And.intro (fun w => absurd w (by decide)) (fun _ => ⟨rfl, hp⟩)
        | false =>
          rw [if_neg (fun w => by cases hb.mpr w)] at hp
          exact And.intro (fun _ => ⟨rfl, hp⟩) (fun w => absurd (by decide) w)
      · have w : ¬ nI (lvN (V a 0)) ≤ t := fun v => w (decide_eq_true v)
        rw [no (fun v => by
          obtain ⟨c, hc, e⟩ := v.2.1
          rw [e] at v w
          rw [clp_n (by omega)] at v
          exact w (nI_le v.2.2 (by omega)))] at hp0
        exact ⟨rfl, hp0⟩
    · have qa : ¬ srt (kd a) = 0 := fun w => q (decide_eq_true (by rw [w]; rfl))
      rw [no (fun w => qa ((isT_n ha s2).mp w.1))] at hp0
      exact ⟨rfl, hp0⟩
  · rw [no (fun w => isT_no hna w.1)] at hp0
    exact And.intro (fun w => absurd w (by decide)) (fun _ => ⟨rfl, hp0⟩)
theorem m_square' [NeZero p] {G : Nat → Nat → Int32} {d' : Nat} {post : Option Value → Me → Prop} (hM : MoM M m) (hR : MR I m p D h n kd tl V g) (hd : d + 3 ≤ d') (hp : ∀ G1 J1, post (some (.int (sqA p D h n kd V s t))) (St M (rg I m G1) J1)) : Ok K d' 153 [.ref m, .int s, .int t] (St M (rg I m G) J) post := by
  refine Ok.up (d := d + 3) (post := post) ?_ hd (fun _ _ h => h)
  obtain ⟨mA, mT, mS, mV, mB⟩ := hR
  have n6 := mT.2.1
  have hh3 := mA.1.2.2.1
  have pb := mA.1.2.2.2.1.2
  have no : ¬ (isT n kd s 0 ∧ inL t (h + 1) ∧ lvN (V (clp s) 0) ≤ clp t) → sqA p D h n kd V s t = Int32.ofInt (-1) := fun q => if_neg q
  have hp0 := hp G J
  refine Ok.go (e := me_153) rfl rfl (Nat.le_of_ble_eq_true rfl) hM.c ?_
  refine Rf.go 100 [] ?_
  refine m_isOf (d := d) (s := 0) hM mT.rg rfl (by decide) (by omega) (fun q1 => ?_) (fun q1 => ?_)
  · obtain ⟨a, ha, rfl, qa⟩ := q1
    have ca : clp (nI a) = a := clp_n (by omega)
    rw [ca] at no
    have hva := mV a ha 0 (by decide)
    have lb := lvN_le (V a 0)
    refine And.intro (fun w => absurd w (by decide)) (fun _ => ?_)
    refine And.intro hM.c ?_
    have e1 : rg I m G m 1 = nI h := by rw [rg_m]; exact mA.1.2.1
    refine And.intro (fun q => ?_) (fun q => ?_)
    · have q : rg I m G m 1 < t := of_decide_eq_true q
      rw [e1] at q
      rw [no (fun w => by
        obtain ⟨c, hc, e⟩ := w.2.1
        rw [e] at q
        exact absurd ((nI_ltI (by omega) (by omega)).mp q) (by omega))] at hp0
      exact ⟨rfl, hp0⟩
    have q : ¬ nI h < t := fun w => q (decide_eq_true (show rg I m G m 1 < t by rw [e1]; exact w))
    refine m_levelOf (d := d) (a := a) (i := 0) (v := V a 0) hM rfl rfl (by omega) (by omega) (fun j hj => by rw [rg_ne (by omega)]; exact hva.1 j hj) (fun j => by have := hva.2.1.1 j; omega) (by omega) ?_
    refine And.intro (fun w => ?_) (fun w => ?_)
    · have w : nI (lvN (V a 0)) ≤ t := of_decide_eq_true w
      have t0 : ¬ t < 0 := fun v => by
        have h1 := Int32.lt_of_le_of_lt w v
        exact nI_pos (by omega) h1
      obtain ⟨c, hc, rfl⟩ := nI_of t0
      have q : c ≤ h := by
        apply Classical.byContradiction
        intro v
        exact q (nI_lt (by omega) hc)
      have w := (nI_leI (by omega) hc).mp w
      have cc : clp (nI c) = c := clp_n hc
      have e : sqA p D h n kd V (nI a) (nI c) = _ := if_pos ⟨⟨a, ha, rfl, qa⟩, ⟨c, by omega, rfl⟩, by rw [ca, cc]; exact w⟩
      rw [ca, cc] at e
      have hvk : vOk p c (V a 0) := hva.2.1.lv hh3 pb w
      refine x_loadE (d := d) (r := 3) (a := a) (k := 0) (v := vE p D c (oV p D c (V a 0))) hM rfl rfl rfl (by decide) (by omega) (by decide) (fun j hj => (hva.1 j hj).trans (congrArg nI (congrFun (hvk.tv (D := D)) j).symm)) (by omega) (fun G1 J1 q1 f1 => ?_)
      refine m_isSq (d := d) (k := c) (X := oV p D c (V a 0)) hM mA rfl rfl (by decide) (by decide) q q1 (by omega) (fun z G2 J2 _ => ?_) (fun z G2 J2 _ => ?_)
      · have hp := hp G2 J2
        rw [e, if_pos z] at hp
        exact And.intro (fun w => absurd w (by decide)) (fun _ => ⟨rfl, hp⟩)
      · have hp := hp G2 J2
        rw [e, if_neg z] at hp
        exact And.intro (fun _ => ⟨rfl, hp⟩) (fun w => absurd (by decide) w)
    · have w : ¬ nI (lvN (V a 0)) ≤ t := fun v => w (decide_eq_true v)
      rw [no (fun v => by
        obtain ⟨c, hc, e⟩ := v.2.1
        rw [e] at v w
        rw [clp_n (by omega)] at v
        exact w (nI_le v.2.2 (by omega)))] at hp0
      exact ⟨rfl, hp0⟩
  · rw [no (fun w => q1 w.1)] at hp0
    exact And.intro (fun _ => ⟨rfl, hp0⟩) (fun w => absurd (by decide) w)
theorem m_square [NeZero p] {d' : Nat} {post : Option Value → Me → Prop} (hM : MoM M m) (hR : MR I m p D h n kd tl V g) (hd : d + 3 ≤ d') (hp : ∀ I1 J1, QfM I I1 m → post (some (.int (sqA p D h n kd V s t))) (St M I1 J1)) : Ok K d' 153 [.ref m, .int s, .int t] (St M I J) post := by
  have w := m_square' (K := K) (d := d) (d' := d') (J := J) (post := post) (s := s) (t := t) (G := fun r j => I (m + 11) (8 * r + j)) hM hR hd (fun G1 J1 => hp _ J1 QfM.rg)
  rw [rg_self] at w
  exact w
end Qf
