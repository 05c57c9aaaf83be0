/-! coordinate, base, why -/
noncomputable def coA (n : Nat) (kd : Nat → Nat) (V : Nat → Nat → Nat → Nat) (t i j : Int32) : Int32 := @ite _ (inL t n ∧ inL i (szs (srt (kd (clp t)))) ∧ inL j 8) (Classical.propDecidable _) (nI (V (clp t) (clp i) (clp j))) (Int32.ofInt (-1))
noncomputable def baA (h : Nat) (D : Nat → Nat → Nat) (k j : Int32) : Int32 := @ite _ (inL k h ∧ inL j 4) (Classical.propDecidable _) (nI (D (clp k) (clp j))) (Int32.ofInt (-1))
section Qa
variable {K : Ka} {d o o2 m p h n : Nat} {M : Me} {I : Nat → Nat → Int32} {J : Nat → Nat → Int64} {D : Nat → Nat → Nat} {kd : Nat → Nat} {tl : Nat → Nat → Int32} {V : Nat → Nat → Nat → Nat} {g : Nat → Nat} {t i j k : Int32}
theorem clp_n {a : Nat} (h : a < 2 ^ 31) : clp (nI a) = a := nI_clamp h
theorem inL_n {a hi : Nat} (ha : a < 2 ^ 31) (hh : hi < 2 ^ 31) : inL (nI a) hi ↔ a < hi := by
  constructor
  · rintro ⟨b, h1, h2⟩
    rw [(nI_eq ha (by omega)).mp h2]; exact h1
  · exact fun h => ⟨a, h, rfl⟩
theorem hsb_iff (hn : n ≤ 60) : hsb n t = true ↔ inL t n := ⟨fun q => by obtain ⟨a, b, c⟩ := hsb_t q hn; exact ⟨a, b, c⟩, fun ⟨a, b, c⟩ => by rw [c]; exact hsb_i b hn⟩
theorem c_coord [NeZero p] {d' : Nat} {post : Option Value → Me → Prop} (hK : Kst K) (hM : CtM M o o2) (hR : CR I o p D h n kd tl V g) (hd : d + 3 ≤ d') (hp : post (some (.int (coA n kd V t i j))) (St M I J)) : Ok K d' 78 [.ref 8, .int t, .int i, .int j] (St M I J) post := by
  refine Ok.up (d := d + 3) (post := post) ?_ hd (fun _ _ h => h)
  obtain ⟨hC, ⟨r0, r1, r2, r3⟩, hS, hH, hH2, hoo⟩ := hM
  obtain ⟨⟨s1, s2, s3⟩, hTw, hv, hg⟩ := hR
  have no : ¬ (inL t n ∧ inL i (szs (srt (kd (clp t)))) ∧ inL j 8) → coA n kd V t i j = Int32.ofInt (-1) := fun q => if_neg q
  refine Ok.go (e := me_78) rfl rfl (Nat.le_of_ble_eq_true rfl) hC ?_
  refine Rf.go 100 [] ?_
  refine And.intro (fun q => ?_) (fun q => ?_)
  · have q : i < 0 := of_decide_eq_true q
    rw [no (fun w => ((inL_iff (by have := szs_le (srt (kd (clp t))); omega)).mp w.2.1).1 q)] at hp
    exact ⟨rfl, hp⟩
  have i0 : ¬ i < 0 := fun w => q (decide_eq_true w)
  refine And.intro hC ⟨9, r0, ?_⟩
  cases hh : hsb n t with
  | false =>
    refine (s_rowsNo (d := d) hS s1 hh).up (by omega) ?_
    rintro r M1 ⟨rfl, rfl⟩
    have hno : ¬ inL t n := fun w => by rw [(hsb_iff s2).mpr w] at hh; cases hh
    rw [no (fun w => hno w.1)] at hp
    refine And.intro (fun _ => ⟨rfl, hp⟩) (fun w => absurd (decide_eq_true (Int32.not_lt.mp i0)) w)
  | true =>
    obtain ⟨t', ht, rfl⟩ := hsb_t hh s2
    obtain ⟨k1, k2⟩ := (s3 t' ht).1
    have ec : clp (nI t') = t' := clp_n (by omega)
    obtain ⟨i', hi, rfl⟩ := nI_of i0
    have ei : clp (nI i') = i' := clp_n hi
    have hz := szs_le (srt (kd t'))
    refine (s_rowsOf (d := d) hK hS s1 s2 ht k1 k2 rfl).up (by omega) ?_
    rintro r M1 ⟨rfl, rfl⟩
    refine And.intro (fun q => ?_) (fun q => ?_)
    · have q := (geN hi (by omega)).mp q
      rw [no (fun w => by rw [ec, inL_n hi (by omega)] at w; omega)] at hp
      exact ⟨rfl, hp⟩
    have q : i' < szs (srt (kd t')) := by
      apply Classical.byContradiction
      intro w
      exact q ((geN hi (by omega)).mpr (by omega))
    refine And.intro (fun w => ?_) (fun w => ?_)
    · have w : j < 0 := of_decide_eq_true w
      rw [no (fun v => ((inL_iff (by decide)).mp v.2.2).1 w)] at hp
      exact ⟨rfl, hp⟩
    have j0 : ¬ j < 0 := fun v => w (decide_eq_true v)
    obtain ⟨j', hj, rfl⟩ := nI_of j0
    refine And.intro (fun w => ?_) (fun w => ?_)
    · have w : j' < 8 := (nI_ltI (b := 8) hj (by decide)).mp (of_decide_eq_true w)
      refine And.intro hC ⟨o, r2, ?_⟩
      refine (h_row (d := d) (t := t') (i := i') hH (by omega) (by omega) rfl rfl).up (by omega) ?_
      rintro r M1 ⟨rfl, rfl⟩
      have hrc : rc M (o + 26 + 3 * t' + i') := hH.rc (by omega)
      refine Or.inr (And.intro ⟨hrc.1, rc_in hrc w⟩ ?_)
      have e : coA n kd V (nI t') (nI i') (nI j') = nI (V t' i' j') := by
        unfold coA
        rw [if_pos ⟨⟨t', ht, rfl⟩, ⟨i', by rw [ec]; exact q, rfl⟩, j', w, rfl⟩, ec, ei, clp_n hj]
      rw [e] at hp
      refine ⟨rfl, ?_⟩
      have e2 : I (o + 26 + 3 * t' + i') (nI j').toNatClampNeg = nI (V t' i' j') := by
        rw [nI_clamp hj]
        exact (hv t' ht i' q).1 j' w
      rw [← e2] at hp
      exact hp
    · have w : ¬ j' < 8 := fun v => w (decide_eq_true (nI_lt (b := 8) v (by decide)))
      rw [no (fun v => by have := (inL_n hj (by decide)).mp v.2.2; omega)] at hp
      exact ⟨rfl, hp⟩
theorem in_s {hi : Nat} {x : Int32} (h1 : 0 < hi) (hh : hi < 2 ^ 31) : ((Int64.ofNat 0 : Int64) ≤ x.toInt64 ∧ x.toInt64 ≤ (nI hi - Int32.ofInt 1).toInt64) ↔ inL x hi := by
  have e : nI hi - Int32.ofInt 1 = nI (hi - 1) := pk_sub (b := 1) (by omega)
  have e2 : (nI (hi - 1)).toInt64 = Int64.ofNat (hi - 1) := nI_l (by omega)
  rw [e, e2, in_iff (by omega), show hi - 1 + 1 = hi by omega]
theorem szs_pos : ∀ s, s < 4 → 0 < szs s := by decide
theorem m_coord [NeZero p] {d' : Nat} {post : Option Value → Me → Prop} (hM : MoM M m) (hR : MR I m p D h n kd tl V g) (hd : d + 3 ≤ d') (hp : post (some (.int (coA n kd V t i j))) (St M I J)) : Ok K d' 148 [.ref m, .int t, .int i, .int j] (St M I J) post := by
  refine Ok.up (d := d + 3) (post := post) ?_ hd (fun _ _ h => h)
  obtain ⟨mA, mT, mS, mV, mB⟩ := hR
  have no : ¬ (inL t n ∧ inL i (szs (srt (kd (clp t)))) ∧ inL j 8) → coA n kd V t i j = Int32.ofInt (-1) := fun q => if_neg q
  have NOx : ∀ {a b : Prop}, (cmpI .eq (Int32.ofInt 0) 0 = true → a) → ((cmpI .eq (Int32.ofInt 0) 0 = true → a) ∧ (¬ cmpI .eq (Int32.ofInt 0) 0 = true → b)) := fun f => ⟨f, fun q => absurd (by decide) q⟩
  refine Ok.go (e := me_148) rfl rfl (Nat.le_of_ble_eq_true rfl) hM.c ?_
  refine Rf.go 100 [] ?_
  refine m_isThing (d := d) hM mT (by omega) (fun q => ?_) (fun q => ?_)
  · obtain ⟨t', ht, rfl⟩ := q
    obtain ⟨s1, s2⟩ := mT.2.2 t' ht
    have n6 := mT.2.1
    have ec : clp (nI t') = t' := clp_n (by omega)
    have hs4 := srt_lt (kd t') s2
    have hz := szs_le (srt (kd t'))
    have hz0 := szs_pos (srt (kd t')) hs4
    refine And.intro (fun w => absurd w (by decide)) (fun _ => ?_)
    refine And.intro hM.c ⟨m + 5, hM.r8, ?_⟩
    refine Or.inr (And.intro ⟨(hM.a60 (a := m + 5) (by omega)).1, inb60 (a := 0) hM (by omega)⟩ ?_)
    refine m_sizeOf (d := d) (show I (m + 5) (nI t').toNatClampNeg = nI (srt (kd t')) by rw [nI_clamp (by omega)]; exact s1) hs4 (by omega) ?_
    refine m_in (d := d) (by omega) (fun q => ?_) (fun q => ?_)
    · obtain ⟨i', hi, rfl⟩ := (in_s hz0 (by omega)).mp q
      refine And.intro (fun w => absurd w (by decide)) (fun _ => ?_)
      refine m_in (d := d) (by omega) (fun q => ?_) (fun q => ?_)
      · obtain ⟨j', hj, rfl⟩ := (in_iff (hi := 7) (by decide)).mp q
        refine And.intro (fun w => absurd w (by decide)) (fun _ => ?_)
        refine And.intro hM.c ⟨m + 7, hM.r10, ?_⟩
        refine Or.inr (And.intro ⟨hM.av.1, ?_⟩ ?_)
        · show inb (Int32.ofInt 24 * nI t' + Int32.ofInt 8 * nI i' + nI j') (mH M (m + 7)).2 = true
          rw [ix24e, hM.av.2]
          exact inb_n (by omega) (by omega)
        have e : coA n kd V (nI t') (nI i') (nI j') = nI (V t' i' j') := by
          unfold coA
          rw [if_pos ⟨⟨t', ht, rfl⟩, ⟨i', by rw [ec]; exact hi, rfl⟩, j', hj, rfl⟩, ec, clp_n (by omega), clp_n (by omega)]
        have e2 : I (m + 7) (Int32.ofInt 24 * nI t' + Int32.ofInt 8 * nI i' + nI j').toNatClampNeg = nI (V t' i' j') := by
          rw [ix24e, nI_clamp (by omega)]
          exact (mV t' ht i' (by omega)).1 j' hj
        rw [e, ← e2] at hp
        exact ⟨rfl, hp⟩
      · rw [no (fun w => q ((in_iff (hi := 7) (by decide)).mpr w.2.2))] at hp
        exact And.intro (fun _ => ⟨rfl, hp⟩) (fun w => absurd (by decide) w)
    · rw [no (fun w => q ((in_s hz0 (by omega)).mpr (by have := w.2.1; rw [ec] at this; exact this)))] at hp
      exact And.intro (fun _ => ⟨rfl, hp⟩) (fun w => absurd (by decide) w)
  · rw [no (fun w => q w.1)] at hp
    exact And.intro (fun _ => ⟨rfl, hp⟩) (fun w => absurd (by decide) w)
theorem c_base [NeZero p] {d' : Nat} {post : Option Value → Me → Prop} (hM : CtM M o o2) (hR : CR I o p D h n kd tl V g) (hA : AS p D h n kd tl V g) (hd : d + 1 ≤ d') (hp : post (some (.int (baA h D k j))) (St M I J)) : Ok K d' 79 [.ref 8, .int k, .int j] (St M I J) post := by
  refine Ok.up (d := d + 1) (post := post) ?_ hd (fun _ _ h => h)
  obtain ⟨hC, ⟨r0, r1, r2, r3⟩, hS, hH, hH2, hoo⟩ := hM
  obtain ⟨hSt, hTw, hv, hg⟩ := hR
  have hh3 := hTw.1.2.2.1
  have no : ¬ (inL k h ∧ inL j 4) → baA h D k j = Int32.ofInt (-1) := fun q => if_neg q
  obtain ⟨hRb, hBc, hBl, hBr⟩ := hH.tw.2.1
  refine Ok.go (e := me_79) rfl rfl (Nat.le_of_ble_eq_true rfl) hC ?_
  refine Rf.go 100 [] ?_
  refine And.intro (fun q => ?_) (fun q => ?_)
  · have q : k < 0 := of_decide_eq_true q
    rw [no (fun w => ((inL_iff (by omega)).mp w.1).1 q)] at hp
    exact ⟨rfl, hp⟩
  have k0 : ¬ k < 0 := fun w => q (decide_eq_true w)
  obtain ⟨k', hk, rfl⟩ := nI_of k0
  refine And.intro hC ⟨o, r2, ?_⟩
  refine And.intro hH.c ⟨o + 1, hH.r0, ?_⟩
  refine And.intro hH.tc ?_
  refine And.intro (fun q => ?_) (fun q => ?_)
  · have q : cmpI .ge (nI k') (I (o + 1) 1) = true := q
    rw [hTw.1.2.1, geN hk (by omega)] at q
    rw [no (fun w => by have := (inL_n hk (by omega)).mp w.1; omega)] at hp
    exact ⟨rfl, hp⟩
  have q : k' < h := by
    apply Classical.byContradiction
    intro w
    refine q ?_
    show cmpI .ge (nI k') (I (o + 1) 1) = true
    rw [hTw.1.2.1, geN hk (by omega)]
    omega
  refine And.intro (fun w => absurd ((geN (n := 3) hk (by decide)).mp w) (by omega)) (fun _ => ?_)
  refine And.intro (fun w => ?_) (fun w => ?_)
  · have w : j < 0 := of_decide_eq_true w
    rw [no (fun v => ((inL_iff (by decide)).mp v.2).1 w)] at hp
    exact ⟨rfl, hp⟩
  have j0 : ¬ j < 0 := fun v => w (decide_eq_true v)
  obtain ⟨j', hj, rfl⟩ := nI_of j0
  refine And.intro (fun w => ?_) (fun w => ?_)
  · have w : j' < 4 := (nI_ltI (b := 4) hj (by decide)).mp (of_decide_eq_true w)
    refine And.intro hC ⟨o, r2, ?_⟩
    refine And.intro hH.c ⟨o + 1, hH.r0, ?_⟩
    refine And.intro hH.tc ⟨o + 1 + 1, hRb, ?_⟩
    refine And.intro ⟨hBc, by show inb (nI k') (mH M (o + 1 + 1)).2 = true; rw [hBl]; exact inb_n (by omega) (by omega)⟩ ⟨o + 1 + 2 + k', by show mR M (o + 1 + 1) (nI k').toNatClampNeg = _; rw [nI_clamp hk]; exact hBr k' (by omega), ?_⟩
    have hrc : rc M (o + 1 + 2 + k') := hH.tw.2.2.2.2.2.2 _ (Or.inl ⟨by omega, by omega⟩)
    refine Or.inr (And.intro ⟨hrc.1, rc_in hrc (show j' < 8 by omega)⟩ ?_)
    have e : baA h D (nI k') (nI j') = nI (D k' j') := by
      unfold baA
      rw [if_pos ⟨⟨k', q, rfl⟩, j', w, rfl⟩, clp_n hk, clp_n hj]
    have e2 : I (o + 1 + 2 + k') (nI j').toNatClampNeg = nI (D k' j') := by
      rw [nI_clamp hj, hTw.2.2.1 k' q j' (by omega), (hA.2.2.2.2.2 k' q).tv]
    rw [e, ← e2] at hp
    exact ⟨rfl, hp⟩
  · have w : ¬ j' < 4 := fun v => w (decide_eq_true (nI_lt (b := 4) v (by decide)))
    rw [no (fun v => by have := (inL_n hj (by decide)).mp v.2; omega)] at hp
    exact ⟨rfl, hp⟩
theorem m_base [NeZero p] {d' : Nat} {post : Option Value → Me → Prop} (hM : MoM M m) (hR : MR I m p D h n kd tl V g) (hA : AS p D h n kd tl V g) (hd : d + 2 ≤ d') (hp : post (some (.int (baA h D k j))) (St M I J)) : Ok K d' 149 [.ref m, .int k, .int j] (St M I J) post := by
  refine Ok.up (d := d + 2) (post := post) ?_ hd (fun _ _ h => h)
  obtain ⟨mA, mT, mS, mV, mB⟩ := hR
  have hh3 := mA.1.2.2.1
  have no : ¬ (inL k h ∧ inL j 4) → baA h D k j = Int32.ofInt (-1) := fun q => if_neg q
  have hi := in_n (n := h) (x := k) (by omega)
  rw [← mA.1.2.1] at hi
  refine Ok.go (e := me_149) rfl rfl (Nat.le_of_ble_eq_true rfl) hM.c ?_
  refine Rf.go 100 [] ?_
  refine And.intro hM.c ?_
  refine m_in (d := d) (by omega) (fun q => ?_) (fun q => ?_)
  · obtain ⟨k', hk, rfl⟩ := hi.mp q
    refine And.intro (fun w => absurd w (by decide)) (fun _ => ?_)
    refine m_in (d := d) (by omega) (fun q => ?_) (fun q => ?_)
    · obtain ⟨j', hj, rfl⟩ := (in_iff (hi := 3) (by decide)).mp q
      refine And.intro (fun w => absurd w (by decide)) (fun _ => ?_)
      refine And.intro hM.c ⟨m + 8, hM.r11, ?_⟩
      refine Or.inr (And.intro ⟨hM.ab.1, ?_⟩ ?_)
      · show inb (Int32.ofInt 8 * nI k' + nI j') (mH M (m + 8)).2 = true
        rw [ix8e, hM.ab.2]
        exact inb_n (by omega) (by omega)
      have e : baA h D (nI k') (nI j') = nI (D k' j') := by
        unfold baA
        rw [if_pos ⟨⟨k', hk, rfl⟩, j', hj, rfl⟩, clp_n (by omega), clp_n (by omega)]
      have e2 : I (m + 8) (Int32.ofInt 8 * nI k' + nI j').toNatClampNeg = nI (D k' j') := by
        rw [ix8 (by omega) (by omega)]
        exact mA.base hA.2.2.2.2.2 k' hk j' (by omega)
      rw [e, ← e2] at hp
      exact ⟨rfl, hp⟩
    · rw [no (fun w => q ((in_iff (hi := 3) (by decide)).mpr w.2))] at hp
      exact And.intro (fun _ => ⟨rfl, hp⟩) (fun w => absurd (by decide) w)
  · rw [no (fun w => q (hi.mpr w.1))] at hp
    exact And.intro (fun _ => ⟨rfl, hp⟩) (fun w => absurd (by decide) w)
theorem c_why {d' : Nat} {post : Option Value → Me → Prop} (hM : CtM M o o2) (hd : d + 1 ≤ d') (hp : post (some (.int (I 8 5))) (St M I J)) : Ok K d' 74 [.ref 8] (St M I J) post := by
  refine Ok.up (d := d + 1) (post := post) ?_ hd (fun _ _ h => h)
  refine Ok.go (e := me_74) rfl rfl (Nat.le_of_ble_eq_true rfl) hM.1 ?_
  refine Rf.go 100 [] ?_
  exact And.intro hM.1 ⟨rfl, hp⟩
theorem m_why {d' : Nat} {post : Option Value → Me → Prop} (hM : MoM M m) (hd : d + 1 ≤ d') (hp : post (some (.int (I m 2))) (St M I J)) : Ok K d' 143 [.ref m] (St M I J) post := by
  refine Ok.up (d := d + 1) (post := post) ?_ hd (fun _ _ h => h)
  refine Ok.go (e := me_143) rfl rfl (Nat.le_of_ble_eq_true rfl) hM.c ?_
  refine Rf.go 100 [] ?_
  exact And.intro hM.c ⟨rfl, hp⟩
end Qa
