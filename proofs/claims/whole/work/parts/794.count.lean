/-! thing (model), count -/
section Qe
variable {K : Ka} {d o o2 m p h n : Nat} {M : Me} {I : Nat → Nat → Int32} {J : Nat → Nat → Int64} {D : Nat → Nat → Nat} {kd : Nat → Nat} {tl : Nat → Nat → Int32} {V : Nat → Nat → Nat → Nat} {g : Nat → Nat} {s t : Int32}
set_option maxHeartbeats 1000000 in
theorem m_levelOf {a i d' : Nat} {v : Nat → Nat} {z w : Int32} {post : Option Value → Me → Prop} (hM : MoM M m) (hz : z = nI a) (hw : w = nI i) (ha : a < 60) (hi : i < 3) (hv : ∀ j, j < 8 → I (m + 7) (24 * a + 8 * i + j) = nI (v j)) (hb : ∀ j, v j < 2 ^ 31) (hd : d + 1 ≤ d') (hp : post (some (.int (nI (lvN v)))) (St M I J)) : Ok K d' 146 [.ref m, .int z, .int w] (St M I J) post := by
  refine Ok.up (d := d + 1) (post := post) ?_ hd (fun _ _ h => h)
  subst hz hw
  refine Ok.go (e := me_146) rfl rfl (Nat.le_of_ble_eq_true rfl) hM.c ?_
  refine Rf.go 100 [4] ?_
  generalize hf : (fun j => nI (v j) : Nat → Int32) = f
  have key : ∀ j, j ≤ 7 → Rf K d mc_146 4 (lk [(4, .int (nI (j + 1))), (3, .int (nI (tpU f (j + 1)))), (0, .ref m), (1, .int (nI a)), (2, .int (nI i))]) [] (St M I J) (fun r M1 => rok me_146.2.2.2.1 r = true ∧ post r M1) := by
    refine for_up 7 ?_ (fun j hj ih => ?_)
    · have hp : post (some (.int (nI (mpT (tpU f 8))))) (St M I J) := by
        rw [← lvU_tp f 8 (by omega), ← hf]
        exact hp
      have h7 := tpU_lt f 8 (by omega)
      generalize tpU f (7 + 1) = T at h7 hp
      refine Rf.go 100 [4] ?_
      refine And.intro (fun _ => ?_) (fun q => absurd (by decide) q)
      refine And.intro (fun q => ?_) (fun q => ?_)
      · have q : ¬ nI T = 0 := of_decide_eq_true q
        have q : T ≠ 0 := fun w => q (by rw [w]; rfl)
        refine And.intro (fun w => ?_) (fun w => ?_)
        · have w : ¬ nI T = Int32.ofInt 1 := of_decide_eq_true w
          have w : T ≠ 1 := fun v => w (by rw [v]; rfl)
          refine And.intro (fun u => ?_) (fun u => ?_)
          · have u := (geN (n := 4) (by omega) (by decide)).mp u
            rw [show mpT T = 3 from (if_neg q).trans ((if_neg w).trans (if_neg (by omega)))] at hp
            exact ⟨rfl, hp⟩
          · have u : ¬ 4 ≤ T := fun v => u ((geN (n := 4) (by omega) (by decide)).mpr v)
            rw [show mpT T = 2 from (if_neg q).trans ((if_neg w).trans (if_pos (by omega)))] at hp
            exact ⟨rfl, hp⟩
        · have w : nI T = Int32.ofInt 1 := Classical.not_not.mp (fun v => w (decide_eq_true v))
          have w : T = 1 := (nI_eq (b := 1) (by omega) (by decide)).mp w
          rw [w] at hp
          exact ⟨rfl, hp⟩
      · have q : nI T = 0 := Classical.not_not.mp (fun v => q (decide_eq_true v))
        have q : T = 0 := (nI_eq (b := 0) (by omega) (by decide)).mp q
        rw [q] at hp
        exact ⟨rfl, hp⟩
    · have ix : Int32.ofInt 24 * nI a + Int32.ofInt 8 * nI i + nI (j + 1) = nI (24 * a + 8 * i + (j + 1)) := ix24e
      have hval : I (m + 7) (Int32.ofInt 24 * nI a + Int32.ofInt 8 * nI i + nI (j + 1)).toNatClampNeg = nI (v (j + 1)) := by
        rw [ix, nI_clamp (by omega)]
        exact hv (j + 1) (by omega)
      have hfj : f (j + 1) = nI (v (j + 1)) := by rw [← hf]
      refine Rf.go 100 [4] ?_
      refine And.intro (fun q => (ge8 (by omega) q).elim) (fun _ => ?_)
      refine And.intro hM.c ⟨m + 7, hM.r10, ?_⟩
      refine Or.inr (And.intro ⟨hM.av.1, ?_⟩ ?_)
      · show inb (Int32.ofInt 24 * nI a + Int32.ofInt 8 * nI i + nI (j + 1)) (mH M (m + 7)).2 = true
        rw [ix, hM.av.2]
        exact inb_n (by omega) (by omega)
      refine And.intro (fun q => ?_) (fun q => ?_)
      · have q : cmpI .le (I (m + 7) (Int32.ofInt 24 * nI a + Int32.ofInt 8 * nI i + nI (j + 1)).toNatClampNeg) 0 = true := q
        rw [hval, le0N (hb _)] at q
        have e : tpU f (j + 1 + 1) = tpU f (j + 1) := if_pos (Or.inr (by rw [hfj, q]; rfl))
        exact Rf.weak [(4, .int (nI (j + 1 + 1))), (3, .int (nI (tpU f (j + 1 + 1)))), (0, .ref m), (1, .int (nI a)), (2, .int (nI i))] ⟨inc1 (j + 1), by rw [e]; rfl, rfl, rfl, rfl, trivial⟩ ih
      · have q : ¬ cmpI .le (I (m + 7) (Int32.ofInt 24 * nI a + Int32.ofInt 8 * nI i + nI (j + 1)).toNatClampNeg) 0 = true := q
        rw [hval, le0N (hb _)] at q
        have e : tpU f (j + 1 + 1) = j + 1 := if_neg (fun w => w.elim (by omega) (fun w => q (by rw [hfj] at w; exact (nI_eq (b := 0) (hb _) (by decide)).mp w)))
        exact Rf.weak [(4, .int (nI (j + 1 + 1))), (3, .int (nI (tpU f (j + 1 + 1)))), (0, .ref m), (1, .int (nI a)), (2, .int (nI i))] ⟨inc1 (j + 1), by rw [e]; rfl, rfl, rfl, rfl, trivial⟩ ih
  exact Rf.weak [(4, .int (nI (0 + 1))), (3, .int (nI (tpU f (0 + 1)))), (0, .ref m), (1, .int (nI a)), (2, .int (nI i))] ⟨rfl, rfl, rfl, rfl, rfl, trivial⟩ (key 0 (Nat.zero_le _))
theorem in711 {k : Nat} (hk : k < 2 ^ 31) : ((Int64.ofNat 7 : Int64) ≤ (nI k).toInt64 ∧ (nI k).toInt64 ≤ Int64.ofNat 11) ↔ 7 ≤ k ∧ k ≤ 11 := by
  rw [nI_l hk]
  exact and_congr (pk_lLE (a := 7) (by decide) (by omega)) (pk_lLE (b := 11) (by omega) (by decide))
theorem m_price [NeZero p] {a d' : Nat} {post : Option Value → Me → Prop} (hM : MoM M m) (hR : MR I m p D h n kd tl V g) (hg1 : g a ≤ 1) (ha : a < n) (hd : d + 2 ≤ d') (hp : post (some (.int (nI (prc (kd a) (g a))))) (St M I J)) : Ok K d' 145 [.ref m, .int (nI a)] (St M I J) post := by
  refine Ok.up (d := d + 2) (post := post) ?_ hd (fun _ _ h => h)
  obtain ⟨mA, mT, mS, mV, mB⟩ := hR
  have n6 := mT.2.1
  obtain ⟨k1, -, -, -, g1⟩ := mS a ha
  have k2 := (mT.2.2 a ha).2
  have ek : I (m + 1) (nI a).toNatClampNeg = nI (kd a) := by rw [nI_clamp (by omega)]; exact k1
  have eg : I (m + 6) (nI a).toNatClampNeg = nI (g a) := by rw [nI_clamp (by omega)]; exact g1
  have i60 : ∀ q, (mH M q).2 = 60 → inb (nI a) (mH M q).2 = true := fun q hq => by rw [hq]; exact inb_n (by omega) (by omega)
  have a60 := hM.a60 (a := m + 1) (by omega)
  refine Ok.go (e := me_145) rfl rfl (Nat.le_of_ble_eq_true rfl) hM.c ?_
  refine Rf.go 100 [] ?_
  refine And.intro hM.c ⟨m + 1, hM.r4, ?_⟩
  refine Or.inr (And.intro ⟨a60.1, i60 _ a60.2⟩ ?_)
  refine m_in (d := d) (by omega) (fun q => ?_) (fun q => ?_)
  · have q : (Int64.ofNat 7 : Int64) ≤ (I (m + 1) (nI a).toNatClampNeg).toInt64 ∧ (I (m + 1) (nI a).toNatClampNeg).toInt64 ≤ Int64.ofNat 11 := q
    rw [ek, in711 (by omega)] at q
    rw [show prc (kd a) (g a) = 1 from if_pos q] at hp
    exact And.intro (fun w => absurd w (by decide)) (fun _ => ⟨rfl, hp⟩)
  · have q : ¬ ((Int64.ofNat 7 : Int64) ≤ (I (m + 1) (nI a).toNatClampNeg).toInt64 ∧ (I (m + 1) (nI a).toNatClampNeg).toInt64 ≤ Int64.ofNat 11) := q
    rw [ek, in711 (by omega)] at q
    have e : prc (kd a) (g a) = _ := if_neg q
    rw [e] at hp
    refine And.intro (fun _ => ?_) (fun w => absurd (by decide) w)
    refine And.intro hM.c ⟨m + 6, hM.r9, ?_⟩
    refine And.intro ⟨hM.ag.1, i60 _ hM.ag.2⟩ ?_
    refine And.intro (fun q => ?_) (fun q => ?_)
    · have q : ¬ I (m + 6) (nI a).toNatClampNeg = 0 := of_decide_eq_true q
      rw [eg] at q
      rw [if_neg (fun w => q (by rw [w]; rfl))] at hp
      refine And.intro hM.c ⟨m + 1, hM.r4, ?_⟩
      refine Or.inr (And.intro ⟨a60.1, i60 _ a60.2⟩ ?_)
      refine And.intro (fun q => ?_) (fun q => ?_)
      · have q : ¬ I (m + 1) (nI a).toNatClampNeg = Int32.ofInt 12 := of_decide_eq_true q
        rw [ek] at q
        rw [if_neg (fun w => q (by rw [w]; rfl))] at hp
        exact ⟨rfl, hp⟩
      · have q : I (m + 1) (nI a).toNatClampNeg = Int32.ofInt 12 := Classical.not_not.mp (fun w => q (decide_eq_true w))
        rw [ek] at q
        rw [if_pos ((nI_eq (b := 12) (by omega) (by decide)).mp q)] at hp
        exact ⟨rfl, hp⟩
    · have q : I (m + 6) (nI a).toNatClampNeg = 0 := Classical.not_not.mp (fun w => q (decide_eq_true w))
      rw [eg] at q
      rw [if_pos ((nI_eq (b := 0) (by omega) (by decide)).mp q)] at hp
      exact ⟨rfl, hp⟩
set_option maxHeartbeats 1000000 in
theorem m_thing [NeZero p] {d' : Nat} {post : Option Value → Me → Prop} (hM : MoM M m) (hR : MR I m p D h n kd tl V g) (hA : AS p D h n kd tl V g) (hd : d + 4 ≤ d') (hp : post (some (.int (thA n kd tl V g s t))) (St M I J)) : Ok K d' 147 [.ref m, .int s, .int t] (St M I J) post := by
  refine Ok.up (d := d + 4) (post := post) ?_ hd (fun _ _ h => h)
  have hR' := hR
  obtain ⟨mA, mT, mS, mV, mB⟩ := hR
  have n6 := mT.2.1
  have pb := mA.1.2.2.2.1.2
  refine Ok.go (e := me_147) rfl rfl (Nat.le_of_ble_eq_true rfl) hM.c ?_
  refine Rf.go 100 [50] ?_
  refine m_isThing (d := d) hM mT (by omega) (fun q => ?_) (fun q => ?_)
  · obtain ⟨a, ha, rfl⟩ := q
    have ca : clp (nI a) = a := clp_n (by omega)
    have cl : (nI a).toNatClampNeg = a := nI_clamp (by omega)
    obtain ⟨k1, f1, f2, f3, g1⟩ := mS a ha
    obtain ⟨so1, k2⟩ := mT.2.2 a ha
    have hz := szs_le (srt (kd a))
    have hs4 := srt_lt (kd a) k2
    have a60 : ∀ q, m + 1 ≤ q → q ≤ m + 5 → isC M q 10 = true ∧ (mH M q).2 = 60 := fun q h1 h2 => hM.a60 ⟨h1, h2⟩
    have i60 : ∀ q, (mH M q).2 = 60 → inb (nI a) (mH M q).2 = true := fun q hq => by rw [hq]; exact inb_n (by omega) (by omega)
    refine And.intro (fun _ => ?_) (fun w => absurd (by decide) w)
    by_cases hw : inL t 8
    · have e : thA n kd tl V g (nI a) t = _ := (if_pos ⟨a, ha, rfl⟩).trans (if_pos hw)
      rw [ca] at e
      rw [e] at hp
      obtain ⟨c, hc, rfl⟩ := hw
      refine And.intro (fun q => absurd q (in8n hc)) (fun _ => ?_)
      have rd : ∀ (q : Nat) (y : Int32), I q a = y → I q (nI a).toNatClampNeg = y := fun q y hq => by rw [cl]; exact hq
      rcases (show c = 0 ∨ c = 1 ∨ c = 2 ∨ c = 3 ∨ c = 4 ∨ c = 5 ∨ c = 6 ∨ c = 7 by omega) with rfl | rfl | rfl | rfl | rfl | rfl | rfl | rfl
      · refine ⟨_, rfl, ?_⟩
        refine And.intro hM.c ⟨m + 5, hM.r8, ?_⟩
        refine Or.inr (And.intro ⟨(a60 (m + 5) (by omega) (by omega)).1, i60 _ (a60 (m + 5) (by omega) (by omega)).2⟩ ?_)
        have hp : post (some (.int (nI (srt (kd a))))) (St M I J) := hp
        rw [← rd _ _ so1] at hp
        exact ⟨rfl, hp⟩
      · refine ⟨_, rfl, ?_⟩
        refine And.intro hM.c ⟨m + 1, hM.r4, ?_⟩
        refine Or.inr (And.intro ⟨(a60 (m + 1) (by omega) (by omega)).1, i60 _ (a60 (m + 1) (by omega) (by omega)).2⟩ ?_)
        have hp : post (some (.int (nI (kd a)))) (St M I J) := hp
        rw [← rd _ _ k1] at hp
        exact ⟨rfl, hp⟩
      · refine ⟨_, rfl, ?_⟩
        refine And.intro hM.c ⟨m + 2, hM.r5, ?_⟩
        refine Or.inr (And.intro ⟨(a60 (m + 2) (by omega) (by omega)).1, i60 _ (a60 (m + 2) (by omega) (by omega)).2⟩ ?_)
        have hp : post (some (.int (tl a 0))) (St M I J) := hp
        rw [← rd _ _ f1] at hp
        exact ⟨rfl, hp⟩
      · refine ⟨_, rfl, ?_⟩
        refine And.intro hM.c ⟨m + 3, hM.r6, ?_⟩
        refine Or.inr (And.intro ⟨(a60 (m + 3) (by omega) (by omega)).1, i60 _ (a60 (m + 3) (by omega) (by omega)).2⟩ ?_)
        have hp : post (some (.int (tl a 1))) (St M I J) := hp
        rw [← rd _ _ f2] at hp
        exact ⟨rfl, hp⟩
      · refine ⟨_, rfl, ?_⟩
        refine And.intro hM.c ⟨m + 4, hM.r7, ?_⟩
        refine Or.inr (And.intro ⟨(a60 (m + 4) (by omega) (by omega)).1, i60 _ (a60 (m + 4) (by omega) (by omega)).2⟩ ?_)
        have hp : post (some (.int (tl a 2))) (St M I J) := hp
        rw [← rd _ _ f3] at hp
        exact ⟨rfl, hp⟩
      · refine ⟨_, rfl, ?_⟩
        exact m_price (d := d) hM hR' (hA.2.2.1 a ha) ha (by omega) ⟨rfl, hp⟩
      · refine ⟨_, rfl, ?_⟩
        refine And.intro hM.c ⟨m + 6, hM.r9, ?_⟩
        refine And.intro ⟨hM.ag.1, i60 _ hM.ag.2⟩ ?_
        have g1' := rd _ _ g1
        have hp : post (some (.int (nI (g a)))) (St M I J) := hp
        have gb := hA.2.2.1 a ha
        refine And.intro (fun q => ?_) (fun q => ?_)
        · have q : I (m + 6) (nI a).toNatClampNeg = 0 := of_decide_eq_true q
          rw [← g1', q] at hp
          exact ⟨rfl, hp⟩
        · have q : ¬ I (m + 6) (nI a).toNatClampNeg = 0 := fun w => q (decide_eq_true w)
          have q : g a = 1 := by
            have : g a ≠ 0 := fun w => q (by rw [g1', w]; rfl)
            omega
          rw [q] at hp
          exact ⟨rfl, hp⟩
      · refine ⟨_, rfl, ?_⟩
        have key : ∀ i, i ≤ szs (srt (kd a)) → Rf K (d + 3) mc_147 50 (lk [(4, .int (nI i)), (3, .int (nI (glv (V a) i))), (0, .ref m), (1, .int (nI a))]) [] (St M I J) (fun r M1 => rok me_147.2.2.2.1 r = true ∧ post r M1) := by
          refine for_up _ ?_ (fun i hi ih => ?_)
          · refine Rf.go 100 [50] ?_
            refine And.intro hM.c ⟨m + 5, hM.r8, ?_⟩
            refine Or.inr (And.intro ⟨(a60 (m + 5) (by omega) (by omega)).1, i60 _ (a60 (m + 5) (by omega) (by omega)).2⟩ ?_)
            refine m_sizeOf (d := d) (rd _ _ so1) hs4 (by omega) ?_
            exact And.intro (fun _ => ⟨rfl, hp⟩) (fun q => absurd ((geN (by omega) (by omega)).mpr (Nat.le_refl _)) q)
          · refine Rf.go 100 [50] ?_
            refine And.intro hM.c ⟨m + 5, hM.r8, ?_⟩
            refine Or.inr (And.intro ⟨(a60 (m + 5) (by omega) (by omega)).1, i60 _ (a60 (m + 5) (by omega) (by omega)).2⟩ ?_)
            refine m_sizeOf (d := d) (rd _ _ so1) hs4 (by omega) ?_
            refine And.intro (fun q => absurd ((geN (by omega) (by omega)).mp q) (by omega)) (fun _ => ?_)
            have hvi := mV a ha i (by omega)
            have lb := lvN_le (V a i)
            have gb := glv_le (V a) i
            refine m_levelOf (d := d) (v := V a i) hM rfl rfl (by omega) (by omega) hvi.1 (fun j => by have := hvi.2.1.1 j; omega) (by omega) ?_
            refine And.intro (fun q => ?_) (fun q => ?_)
            · have q : nI (lvN (V a i)) ≤ nI (glv (V a) i) := of_decide_eq_true q
              have q := (nI_leI (by omega) (by omega)).mp q
              have e : glv (V a) (i + 1) = glv (V a) i := if_neg (by omega)
              exact Rf.weak [(4, .int (nI (i + 1))), (3, .int (nI (glv (V a) (i + 1)))), (0, .ref m), (1, .int (nI a))] ⟨inc1 i, by rw [e]; rfl, rfl, rfl, trivial⟩ ih
            · have q : ¬ nI (lvN (V a i)) ≤ nI (glv (V a) i) := fun w => q (decide_eq_true w)
              have q : ¬ lvN (V a i) ≤ glv (V a) i := fun w => q (nI_le w (by omega))
              have e : glv (V a) (i + 1) = lvN (V a i) := if_pos (by omega)
              refine m_levelOf (d := d) (v := V a i) hM rfl rfl (by omega) (by omega) hvi.1 (fun j => by have := hvi.2.1.1 j; omega) (by omega) ?_
              exact Rf.weak [(4, .int (nI (i + 1))), (3, .int (nI (glv (V a) (i + 1)))), (0, .ref m), (1, .int (nI a))] ⟨inc1 i, by rw [e]; rfl, rfl, rfl, trivial⟩ ih
        exact Rf.weak [(4, .int (nI 0)), (3, .int (nI (glv (V a) 0))), (0, .ref m), (1, .int (nI a))] ⟨rfl, rfl, rfl, rfl, trivial⟩ (key 0 (Nat.zero_le _))
    · rw [show thA n kd tl V g (nI a) t = Int32.ofInt (-7) from (if_pos ⟨a, ha, rfl⟩).trans (if_neg hw)] at hp
      exact And.intro (fun _ => ⟨rfl, hp⟩) (fun q => absurd (in8 q) hw)
  · rw [show thA n kd tl V g s t = Int32.ofInt (-1) from if_neg q] at hp
    exact And.intro (fun w => absurd w (by decide)) (fun _ => ⟨rfl, hp⟩)
theorem s_howMany {S c d' : Nat} {z : Int32} {post : Option Value → Me → Prop} (hK : Kst K) (hM : StM M S) (hn : I S 0 = nI n) (hn6 : n ≤ 60) (hkd : ∀ s, s < n → I (S + 1) s = nI (kd s) ∧ kd s < 14) (hz : z = nI c) (hc : c < 4) (hd : d + 3 ≤ d') (hp : post (some (.int (nI (hmn kd c n)))) (St M I J)) : Ok K d' 39 [.ref S, .int z] (St M I J) post := by
  refine Ok.up (d := d + 3) (post := post) ?_ hd (fun _ _ h => h)
  subst hz
  refine Ok.go (e := me_39) rfl rfl (Nat.le_of_ble_eq_true rfl) hM.1 ?_
  refine Rf.go 100 [4] ?_
  have key : ∀ i, i ≤ n → Rf K (d + 2) mc_39 4 (lk [(3, .int (nI i)), (2, .int (nI (hmn kd c i))), (0, .ref S), (1, .int (nI c))]) [] (St M I J) (fun r M1 => rok me_39.2.2.2.1 r = true ∧ post r M1) := by
    refine for_up n ?_ (fun i hi ih => ?_)
    · refine Rf.go 100 [4] ?_
      refine And.intro hM.1 ?_
      refine And.intro (fun _ => ⟨rfl, hp⟩) (fun q => absurd ?_ q)
      show cmpI .ge (nI n) (I S 0) = true
      rw [hn]
      exact (geN (by omega) (by omega)).mpr (Nat.le_refl _)
    · refine Rf.go 100 [4] ?_
      refine And.intro hM.1 ?_
      refine And.intro (fun q => ?_) (fun _ => ?_)
      · have q : cmpI .ge (nI i) (I S 0) = true := q
        rw [hn] at q
        exact absurd ((geN (by omega) (by omega)).mp q) (by omega)
      obtain ⟨k1, k2⟩ := hkd i hi
      have := srt_lt (kd i) k2
      refine (s_sortOf (d := d) hK hM hn hn6 hi k1 k2 rfl).up (by omega) ?_
      rintro r M1 ⟨rfl, rfl⟩
      refine And.intro (fun q => ?_) (fun q => ?_)
      · have q : ¬ nI (srt (kd i)) = nI c := of_decide_eq_true q
        have e : hmn kd c (i + 1) = hmn kd c i := by
          show hmn kd c i + (if srt (kd i) = c then 1 else 0) = _
          rw [if_neg (fun w => q (by rw [w])), Nat.add_zero]
        exact Rf.weak [(3, .int (nI (i + 1))), (2, .int (nI (hmn kd c (i + 1)))), (0, .ref S), (1, .int (nI c))] ⟨inc1 i, by rw [e]; rfl, rfl, rfl, trivial⟩ ih
      · have q : nI (srt (kd i)) = nI c := Classical.not_not.mp (fun w => q (decide_eq_true w))
        have q := (nI_eq (by omega) (by omega)).mp q
        have e : hmn kd c (i + 1) = hmn kd c i + 1 := by
          show hmn kd c i + (if srt (kd i) = c then 1 else 0) = _
          rw [if_pos q]
        exact Rf.weak [(3, .int (nI (i + 1))), (2, .int (nI (hmn kd c (i + 1)))), (0, .ref S), (1, .int (nI c))] ⟨inc1 i, by rw [e]; exact inc1 _, rfl, rfl, trivial⟩ ih
  exact Rf.weak [(3, .int (nI 0)), (2, .int (nI (hmn kd c 0))), (0, .ref S), (1, .int (nI c))] ⟨rfl, rfl, rfl, rfl, trivial⟩ (key 0 (Nat.zero_le _))
theorem c_count [NeZero p] {d' : Nat} {post : Option Value → Me → Prop} (hK : Kst K) (hM : CtM M o o2) (hR : CR I o p D h n kd tl V g) (hA : AS p D h n kd tl V g) (hd : d + 4 ≤ d') (hp : post (some (.int (cnA p h n kd g t))) (St M I J)) : Ok K d' 89 [.ref 8, .int t] (St M I J) post := by
  refine Ok.up (d := d + 4) (post := post) ?_ hd (fun _ _ h => h)
  have hM' := hM
  have hR' := hR
  obtain ⟨hC, ⟨r0, r1, r2, r3⟩, hS, hH, hH2, hoo⟩ := hM
  obtain ⟨⟨s1, s2, s3⟩, hTw, hv, hg⟩ := hR
  have hkd : ∀ s, s < n → I (9 + 1) s = nI (kd s) ∧ kd s < 14 := fun s hs => (s3 s hs).1
  refine Ok.go (e := me_89) rfl rfl (Nat.le_of_ble_eq_true rfl) hC ?_
  refine Rf.go 100 [] ?_
  by_cases hw : inL t 8
  · rw [show cnA p h n kd g t = _ from if_pos hw] at hp
    obtain ⟨c, hc, rfl⟩ := hw
    refine And.intro (fun q => absurd q (in8n hc)) (fun _ => ?_)
    have many : ∀ c, c < 4 → ∀ (z : Int32) {post : Option Value → Me → Prop}, z = nI c → post (some (.int (nI (hmn kd c n)))) (St M I J) → Ok K (d + 3) 39 [.ref 9, .int z] (St M I J) post := fun c hc z post hz hp => s_howMany (d := d) hK hS s1 s2 hkd hz hc (by omega) hp
    rcases (show c = 0 ∨ c = 1 ∨ c = 2 ∨ c = 3 ∨ c = 4 ∨ c = 5 ∨ c = 6 ∨ c = 7 by omega) with rfl | rfl | rfl | rfl | rfl | rfl | rfl | rfl
    · refine ⟨_, rfl, ?_⟩
      refine And.intro hC ⟨9, r0, ?_⟩
      refine And.intro hS.1 ?_
      have hp : post (some (.int (nI n))) (St M I J) := hp
      rw [← s1] at hp
      exact ⟨rfl, hp⟩
    · refine ⟨_, rfl, ?_⟩
      refine And.intro hC ⟨o, r2, ?_⟩
      refine And.intro hH.c ⟨o + 1, hH.r0, ?_⟩
      refine And.intro hH.tc ?_
      have hp : post (some (.int (nI h))) (St M I J) := hp
      rw [← hTw.1.2.1] at hp
      exact ⟨rfl, hp⟩
    · refine ⟨_, rfl, ?_⟩
      refine And.intro hC ⟨o, r2, ?_⟩
      refine And.intro hH.c ⟨o + 1, hH.r0, ?_⟩
      refine And.intro hH.tc ?_
      have hp : post (some (.int (nI p))) (St M I J) := hp
      rw [← hTw.1.1] at hp
      exact ⟨rfl, hp⟩
    · refine ⟨_, rfl, ?_⟩
      have hp : post (some (.int (nI (spr kd g n)))) (St M I J) := hp
      refine Ok.go (d := d + 2) (e := me_91) rfl rfl (Nat.le_of_ble_eq_true rfl) hC ?_
      refine Rf.go 100 [4] ?_
      generalize hpost : (fun (r : Option Value) (M1 : Me) => rok me_91.2.2.2.1 r = true ∧ _) = pst9
      have key : ∀ i, i ≤ n → Rf K (d + 2) mc_91 4 (lk [(2, .int (nI i)), (1, .int (nI (spr kd g i))), (0, .ref 8)]) [] (St M I J) pst9 := by
        refine for_up n ?_ (fun i hi ih => ?_)
        · refine Rf.go 100 [4] ?_
          refine And.intro hC ⟨9, r0, ?_⟩
          refine And.intro hS.1 ?_
          refine And.intro (fun _ => ?_) (fun q => absurd ?_ q)
          · rw [← hpost]
            exact ⟨rfl, ⟨rfl, hp⟩⟩
          · show cmpI .ge (nI n) (I 9 0) = true
            rw [s1]
            exact (geN (by omega) (by omega)).mpr (Nat.le_refl _)
        · refine Rf.go 100 [4] ?_
          refine And.intro hC ⟨9, r0, ?_⟩
          refine And.intro hS.1 ?_
          refine And.intro (fun q => ?_) (fun _ => ?_)
          · have q : cmpI .ge (nI i) (I 9 0) = true := q
            rw [s1] at q
            exact absurd ((geN (by omega) (by omega)).mp q) (by omega)
          refine c_price (d := d) hM' hR' (hA.2.2.1 i hi) hi (by omega) ?_
          exact Rf.weak [(2, .int (nI (i + 1))), (1, .int (nI (spr kd g (i + 1)))), (0, .ref 8)] ⟨inc1 i, congrArg (fun z => some (Value.int z)) (nI_add _ _), rfl, trivial⟩ ih
      exact Rf.weak [(2, .int (nI 0)), (1, .int (nI (spr kd g 0))), (0, .ref 8)] ⟨rfl, rfl, rfl, trivial⟩ (key 0 (Nat.zero_le _))
    · refine ⟨_, rfl, ?_⟩
      refine And.intro hC ⟨9, r0, ?_⟩
      exact many 0 (by decide) _ (by decide) ⟨rfl, hp⟩
    · refine ⟨_, rfl, ?_⟩
      refine And.intro hC ⟨9, r0, ?_⟩
      exact many 1 (by decide) _ (by decide) ⟨rfl, hp⟩
    · refine ⟨_, rfl, ?_⟩
      refine And.intro hC ⟨9, r0, ?_⟩
      exact many 2 (by decide) _ (by decide) ⟨rfl, hp⟩
    · refine ⟨_, rfl, ?_⟩
      refine And.intro hC ⟨9, r0, ?_⟩
      exact many 3 (by decide) _ (by decide) ⟨rfl, hp⟩
  · rw [show cnA p h n kd g t = Int32.ofInt (-1) from if_neg hw] at hp
    exact And.intro (fun _ => ⟨rfl, hp⟩) (fun q => absurd (in8 q) hw)
theorem m_count [NeZero p] {d' : Nat} {post : Option Value → Me → Prop} (hM : MoM M m) (hR : MR I m p D h n kd tl V g) (hA : AS p D h n kd tl V g) (hd : d + 3 ≤ d') (hp : post (some (.int (cnA p h n kd g t))) (St M I J)) : Ok K d' 161 [.ref m, .int t] (St M I J) post := by
  refine Ok.up (d := d + 3) (post := post) ?_ hd (fun _ _ h => h)
  have hR' := hR
  obtain ⟨mA, mT, mS, mV, mB⟩ := hR
  have n6 := mT.2.1
  refine Ok.go (e := me_161) rfl rfl (Nat.le_of_ble_eq_true rfl) hM.c ?_
  refine Rf.go 100 [15, 31] ?_
  by_cases hw : inL t 8
  · rw [show cnA p h n kd g t = _ from if_pos hw] at hp
    obtain ⟨c, hc, rfl⟩ := hw
    refine And.intro (fun q => absurd q (in8n hc)) (fun _ => ?_)
    have a60 := hM.a60 (a := m + 5) (by omega)
    have many : ∀ c, c < 4 → ∀ (z : Int32), z - Int32.ofInt 4 = nI c → post (some (.int (nI (hmn kd c n)))) (St M I J) → ∀ i, i ≤ n → Rf K (d + 2) mc_161 31 (lk [(3, .int (nI i)), (2, .int (nI (hmn kd c i))), (0, .ref m), (1, .int z)]) [] (St M I J) (fun r M1 => rok me_161.2.2.2.1 r = true ∧ post r M1) := by
      intro c hc z hz hp
      refine for_up n ?_ (fun i hi ih => ?_)
      · refine Rf.go 100 [31] ?_
        refine And.intro hM.c ?_
        refine And.intro (fun _ => ⟨rfl, hp⟩) (fun q => absurd ?_ q)
        show cmpI .ge (nI n) (I m 3) = true
        rw [mT.1]
        exact (geN (by omega) (by omega)).mpr (Nat.le_refl _)
      · obtain ⟨so1, k2⟩ := mT.2.2 i hi
        have := srt_lt (kd i) k2
        have es : I (m + 5) (nI i).toNatClampNeg = nI (srt (kd i)) := by rw [nI_clamp (by omega)]; exact so1
        refine Rf.go 100 [31] ?_
        refine And.intro hM.c ?_
        refine And.intro (fun q => ?_) (fun _ => ?_)
        · have q : cmpI .ge (nI i) (I m 3) = true := q
          rw [mT.1] at q
          exact absurd ((geN (by omega) (by omega)).mp q) (by omega)
        refine And.intro hM.c ⟨m + 5, hM.r8, ?_⟩
        refine Or.inr (And.intro ⟨a60.1, by show inb (nI i) (mH M (m + 5)).2 = true; rw [a60.2]; exact inb_n (by omega) (by omega)⟩ ?_)
        refine And.intro (fun q => ?_) (fun q => ?_)
        · have q : ¬ I (m + 5) (nI i).toNatClampNeg = z - Int32.ofInt 4 := of_decide_eq_true q
          rw [es, hz] at q
          have e : hmn kd c (i + 1) = hmn kd c i + 0 := by
            show hmn kd c i + (if srt (kd i) = c then 1 else 0) = _
            rw [if_neg (fun w => q (by rw [w]))]
          exact Rf.weak [(3, .int (nI (i + 1))), (2, .int (nI (hmn kd c (i + 1)))), (0, .ref m), (1, .int z)] ⟨inc1 i, congrArg (fun z => some (Value.int z)) (by rw [e]; exact nI_add _ 0), rfl, rfl, trivial⟩ ih
        · have q : I (m + 5) (nI i).toNatClampNeg = z - Int32.ofInt 4 := Classical.not_not.mp (fun w => q (decide_eq_true w))
          rw [es, hz] at q
          have q := (nI_eq (by omega) (by omega)).mp q
          have e : hmn kd c (i + 1) = hmn kd c i + 1 := by
            show hmn kd c i + (if srt (kd i) = c then 1 else 0) = _
            rw [if_pos q]
          exact Rf.weak [(3, .int (nI (i + 1))), (2, .int (nI (hmn kd c (i + 1)))), (0, .ref m), (1, .int z)] ⟨inc1 i, congrArg (fun z => some (Value.int z)) (by rw [e]; exact nI_add _ 1), rfl, rfl, trivial⟩ ih
    rcases (show c = 0 ∨ c = 1 ∨ c = 2 ∨ c = 3 ∨ c = 4 ∨ c = 5 ∨ c = 6 ∨ c = 7 by omega) with rfl | rfl | rfl | rfl | rfl | rfl | rfl | rfl
    · refine ⟨_, rfl, ?_⟩
      refine And.intro hM.c ?_
      have hp : post (some (.int (nI n))) (St M I J) := hp
      rw [← mT.1] at hp
      exact ⟨rfl, hp⟩
    · refine ⟨_, rfl, ?_⟩
      refine And.intro hM.c ?_
      have hp : post (some (.int (nI h))) (St M I J) := hp
      rw [← mA.1.2.1] at hp
      exact ⟨rfl, hp⟩
    · refine ⟨_, rfl, ?_⟩
      refine And.intro hM.c ?_
      have hp : post (some (.int (nI p))) (St M I J) := hp
      rw [← mA.1.1] at hp
      exact ⟨rfl, hp⟩
    · refine ⟨_, rfl, ?_⟩
      have hp : post (some (.int (nI (spr kd g n)))) (St M I J) := hp
      have key : ∀ i, i ≤ n → Rf K (d + 2) mc_161 15 (lk [(3, .int (nI i)), (2, .int (nI (spr kd g i))), (0, .ref m)]) [] (St M I J) (fun r M1 => rok me_161.2.2.2.1 r = true ∧ post r M1) := by
        refine for_up n ?_ (fun i hi ih => ?_)
        · refine Rf.go 100 [15] ?_
          refine And.intro hM.c ?_
          refine And.intro (fun _ => ⟨rfl, hp⟩) (fun q => absurd ?_ q)
          show cmpI .ge (nI n) (I m 3) = true
          rw [mT.1]
          exact (geN (by omega) (by omega)).mpr (Nat.le_refl _)
        · refine Rf.go 100 [15] ?_
          refine And.intro hM.c ?_
          refine And.intro (fun q => ?_) (fun _ => ?_)
          · have q : cmpI .ge (nI i) (I m 3) = true := q
            rw [mT.1] at q
            exact absurd ((geN (by omega) (by omega)).mp q) (by omega)
          refine m_price (d := d) hM hR' (hA.2.2.1 i hi) hi (by omega) ?_
          exact Rf.weak [(3, .int (nI (i + 1))), (2, .int (nI (spr kd g (i + 1)))), (0, .ref m)] ⟨inc1 i, congrArg (fun z => some (Value.int z)) (nI_add _ _), rfl, trivial⟩ ih
      exact Rf.weak [(3, .int (nI 0)), (2, .int (nI (spr kd g 0))), (0, .ref m)] ⟨rfl, rfl, rfl, trivial⟩ (key 0 (Nat.zero_le _))
    · refine ⟨_, rfl, ?_⟩
      exact Rf.weak [(3, .int (nI 0)), (2, .int (nI (hmn kd 0 0))), (0, .ref m), (1, .int (nI 4))] ⟨rfl, rfl, rfl, rfl, trivial⟩ (many 0 (by decide) _ (by decide) hp 0 (Nat.zero_le _))
    · refine ⟨_, rfl, ?_⟩
      exact Rf.weak [(3, .int (nI 0)), (2, .int (nI (hmn kd 1 0))), (0, .ref m), (1, .int (nI 5))] ⟨rfl, rfl, rfl, rfl, trivial⟩ (many 1 (by decide) _ (by decide) hp 0 (Nat.zero_le _))
    · refine ⟨_, rfl, ?_⟩
      exact Rf.weak [(3, .int (nI 0)), (2, .int (nI (hmn kd 2 0))), (0, .ref m), (1, .int (nI 6))] ⟨rfl, rfl, rfl, rfl, trivial⟩ (many 2 (by decide) _ (by decide) hp 0 (Nat.zero_le _))
    · refine ⟨_, rfl, ?_⟩
      exact Rf.weak [(3, .int (nI 0)), (2, .int (nI (hmn kd 3 0))), (0, .ref m), (1, .int (nI 7))] ⟨rfl, rfl, rfl, rfl, trivial⟩ (many 3 (by decide) _ (by decide) hp 0 (Nat.zero_le _))
  · rw [show cnA p h n kd g t = Int32.ofInt (-1) from if_neg hw] at hp
    exact And.intro (fun _ => ⟨rfl, hp⟩) (fun q => absurd (in8 q) hw)
end Qe
