/-! House: printed by hgen.py -/
section H8
variable {K : Ka} {d o p h : Nat} {M : Me} {I : Nat → Nat → Int32} {J : Nat → Nat → Int64} {D : Nat → Nat → Nat}
def FrM (I I1 : Nat → Nat → Int32) (o t : Nat) : Prop := ∀ a, (a < o + 1 ∨ o + 25 ≤ a) → (a < o + 206 ∨ o + 219 ≤ a) → (a < o + 26 + 3 * t ∨ o + 26 + 3 * t + 3 ≤ a) → I1 a = I a
theorem H14t [NeZero p] {t sz : Nat} {R : Rz} {I0 : Nat → Nat → Int32} {post : Option Value → Me → Prop} (hM : HsM M o) (ht : t < 60) (hsz : sz ≤ 3) (hh : h ≤ R.2.2.1) (hO : OutC I o p t sz R) (hF : FrC I0 I o t) (hp : ∀ I1 J1, OutC I1 o p t sz R → I1 (o + 209) = (fun j => if j = t then nI (R.2.2.1 - h) else I0 (o + 209) j) → FrM I0 I1 o t → post (some (.int R.1)) (St M I1 J1)) : Rf K d mc_14 47 (lk [(0, .ref o), (1, .int (nI t)), (3, .int (nI h)), (5, .int R.1)]) [] (St M I J) (fun r M1 => rok me_14.2.2.2.1 r = true ∧ post r M1) := by
  obtain ⟨r2, c2, l2⟩ := hM.2.2.2.2.1
  have e : I (o + 1) 1 - nI h = nI (R.2.2.1 - h) := by rw [hO.1.1.2.1, pk_sub hh]
  refine Rf.go 100 [] ?_
  refine And.intro hM.c ⟨o + 209, r2, ?_⟩
  refine And.intro hM.c ⟨o + 1, hM.r0, ?_⟩
  refine And.intro hM.tc ?_
  refine And.intro ⟨c2, by rw [show (mH (St M I J) (o + 209)).2 = 60 from l2]; exact inb_n ht (by omega)⟩ ?_
  have f : ∀ a, a ≠ o + 209 → u2 I (o + 209) (nI t).toNatClampNeg (I (o + 1) 1 - nI h) a = I a := fun a ha => u2_ne ha
  refine ⟨rfl, hp (u2 I (o + 209) (nI t).toNatClampNeg (I (o + 1) 1 - nI h)) J ⟨hO.1.keep (fun a h1 h2 => f a (by omega)), fun q i hi j hj => ?_⟩ ?_ (fun a h1 h2 h3 => ?_)⟩
  · rw [f _ (by omega)]
    exact hO.2 q i hi j hj
  · rw [nI_clamp (by omega), e]
    funext j
    rw [u2_at]
    split
    · rfl
    · rw [hF _ (by omega) (by omega) (by omega)]
  · rw [f a (by omega), hF a h1 (by omega) h3]
theorem H14 [NeZero p] {S t k sz d' : Nat} {z : Int32} {R : Rz} {post : Option Value → Me → Prop} (hM : HsM M o) (hA : TwA I (o + 1) p h D) (hS : StM M S) (hz : z = nI t) (ht : t < 60) (hsz : sz ≤ 3) (hk : I (S + 1) t = nI k) (hk14 : k < 14) (hh : h ≤ R.2.2.1)
    (hin : ∀ post' : Option Value → Me → Prop, (∀ I1 J1, OutC I1 o p t sz R → FrC I I1 o t → post' (some (.int R.1)) (St M I1 J1)) → if k ≤ 5 then Ok K (d + 10) 16 [.ref o, .int (nI t), .int (nI k), .int (I (S + 2) (3 * t + 0)), .int (I (S + 2) (3 * t + 1))] (St M I J) post' else if k = 12 then Ok K (d + 10) 24 [.ref o, .int (nI t), .ref S] (St M I J) post' else Ok K (d + 10) 17 [.ref o, .int (nI t), .int (nI k), .ref S] (St M I J) post')
    (hd : d + 11 ≤ d') (hp : ∀ I1 J1, OutC I1 o p t sz R → I1 (o + 209) = (fun j => if j = t then nI (R.2.2.1 - h) else I (o + 209) j) → FrM I I1 o t → post (some (.int R.1)) (St M I1 J1)) : Ok K d' 14 [.ref o, .int z, .ref S] (St M I J) post := by
  refine Ok.up (d := d + 11) (post := post) ?_ hd (fun _ _ h => h)
  subst hz
  refine Ok.go (e := me_14) rfl rfl (Nat.le_of_ble_eq_true rfl) hM.c ?_
  refine Rf.go 100 [47] ?_
  refine And.intro (fun hb => absurd (of_decide_eq_true hb) (nI_pos (by omega))) (fun _ => ?_)
  refine And.intro (fun _ => ?_) (fun hb => absurd (decide_eq_true (nI_lt (b := 60) ht (by decide))) hb)
  refine And.intro hM.c ⟨o + 1, hM.r0, ?_⟩
  refine And.intro hM.tc ?_
  have w1 := s_kindOf (K := K) (d := d) (I := I) (J := J) hS ht rfl
  rw [hk] at w1
  refine w1.up (by omega) ?_
  rintro r M1 ⟨rfl, rfl⟩
  have eh : I (o + 1) 1 = nI h := hA.1.2.1
  refine And.intro (fun hb => ?_) (fun hb => ?_)
  · have h5 : ¬ k ≤ 5 := fun q => absurd (of_decide_eq_true hb) (nI_nlt (a := 5) q (by decide))
    refine And.intro (fun hc => ?_) (fun hc => ?_)
    · have h12 : ¬ k = 12 := fun q => absurd (congrArg nI q) (of_decide_eq_true hc)
      have hin := hin (fun r M1 => Rf K (d + 10) mc_14 47 (lk [(0, .ref o), (1, .int (nI t)), (3, .int (nI h)), (5, .int R.1)]) [] M1 (fun r M1 => rok me_14.2.2.2.1 r = true ∧ post r M1) ∧ r = some (.int R.1)) (fun I1 J1 q1 q2 => ⟨H14t hM ht hsz hh q1 q2 hp, rfl⟩)
      rw [if_neg h5, if_neg h12] at hin
      refine hin.up (Nat.le_refl _) ?_
      rintro r M1 ⟨hr, rfl⟩
      exact Rf.weak [(0, .ref o), (1, .int (nI t)), (3, .int (nI h)), (5, .int R.1)] ⟨rfl, rfl, congrArg (fun z => some (Value.int z)) eh, rfl, trivial⟩ hr
    · have h12 : k = 12 := by
        have q : nI k = Int32.ofInt 12 := Classical.not_not.mp (fun q => hc (decide_eq_true q))
        exact (nI_eq (b := 12) (by omega) (by omega)).mp q
      have hin := hin (fun r M1 => Rf K (d + 10) mc_14 47 (lk [(0, .ref o), (1, .int (nI t)), (3, .int (nI h)), (5, .int R.1)]) [] M1 (fun r M1 => rok me_14.2.2.2.1 r = true ∧ post r M1) ∧ r = some (.int R.1)) (fun I1 J1 q1 q2 => ⟨H14t hM ht hsz hh q1 q2 hp, rfl⟩)
      rw [if_neg h5, if_pos h12] at hin
      refine hin.up (Nat.le_refl _) ?_
      rintro r M1 ⟨hr, rfl⟩
      exact Rf.weak [(0, .ref o), (1, .int (nI t)), (3, .int (nI h)), (5, .int R.1)] ⟨rfl, rfl, congrArg (fun z => some (Value.int z)) eh, rfl, trivial⟩ hr
  · have h5 : k ≤ 5 := by
      apply Classical.byContradiction
      intro q
      exact hb (decide_eq_true (nI_lt (a := 5) (by omega) (by omega)))
    have t0 := s_toldOf (K := K) (d := d) (I := I) (J := J) hS (t := t) (i := 0) ht (by decide) rfl rfl
    refine t0.up (by omega) ?_
    rintro r M1 ⟨rfl, rfl⟩
    have t1 := s_toldOf (K := K) (d := d) (I := I) (J := J) hS (t := t) (i := 1) ht (by decide) rfl rfl
    refine t1.up (by omega) ?_
    rintro r M1 ⟨rfl, rfl⟩
    have hin := hin (fun r M1 => Rf K (d + 10) mc_14 47 (lk [(0, .ref o), (1, .int (nI t)), (3, .int (nI h)), (5, .int R.1)]) [] M1 (fun r M1 => rok me_14.2.2.2.1 r = true ∧ post r M1) ∧ r = some (.int R.1)) (fun I1 J1 q1 q2 => ⟨H14t hM ht hsz hh q1 q2 hp, rfl⟩)
    rw [if_pos h5] at hin
    refine hin.up (Nat.le_refl _) ?_
    rintro r M1 ⟨hr, rfl⟩
    exact Rf.weak [(0, .ref o), (1, .int (nI t)), (3, .int (nI h)), (5, .int R.1)] ⟨rfl, rfl, congrArg (fun z => some (Value.int z)) eh, rfl, trivial⟩ hr
set_option maxHeartbeats 4000000 in
theorem H13 [NeZero p] {s t d' : Nat} {z0 z1 : Int32} {S0 S1 T0 T1 : TR p D h} {post : Option Value → Me → Prop} (hK : Ksp K) (hM : HsM M o) (hA : TwA I (o + 1) p h D) (hz0 : z0 = nI s) (hz1 : z1 = nI t) (hs : s ≤ 60) (ht : t ≤ 60) (hS0 : Re I p D h (o + 26 + 3 * s + 0) S0) (hS1 : Re I p D h (o + 26 + 3 * s + 1) S1) (hT0 : Re I p D h (o + 26 + 3 * t + 0) T0) (hT1 : Re I p D h (o + 26 + 3 * t + 1) T1) (hd : d + 4 ≤ d') (c1 : ((TI p D h).add ((TI p D h).mul S0 T0) ((TI p D h).mul S1 T1)) = ((TI p D h).ofNat 0).ofNat → ∀ I1 J1, (∀ a, a ≠ o + 217 → a ≠ o + 218 → I1 a = I a) → post (some (.int (Int32.ofInt 1))) (St M I1 J1)) (c0 : ¬ ((TI p D h).add ((TI p D h).mul S0 T0) ((TI p D h).mul S1 T1)) = ((TI p D h).ofNat 0).ofNat → ∀ I1 J1, (∀ a, a ≠ o + 217 → a ≠ o + 218 → I1 a = I a) → post (some (.int (Int32.ofInt 0))) (St M I1 J1)) : Ok K d' 13 [.ref o, .int z0, .int z1] (St M I J) post := by
  refine Ok.up (d := d + 4) (post := post) ?_ hd (fun _ _ h => h)
  subst hz0 hz1
  refine Ok.go (e := me_13) rfl rfl (Nat.le_of_ble_eq_true rfl) hM.c ?_
  refine Rf.go 300 [] ?_
  refine H22 (d := d) (s := s) (t := t) hK hM hA rfl rfl (by omega) (by omega) hS0 hS1 hT0 hT1 (by omega) (fun I1 J1 q1_0 f1 => ?_)
  refine And.intro hM.c ⟨o + 1, hM.r0, ?_⟩
  refine And.intro hM.c ⟨o + 218, hM.r11, ?_⟩
  have hA2 := (hA).keep (fun a h1 h2 => f1 a (by omega) (by omega))
  refine (t_isZeroE (d := d) hM.tc (hM.rc (by omega)) hA2.1.2.2.1 hA2.1.2.2.2.1.2 q1_0).up (by omega) ?_
  rintro r M1 ⟨rfl, (⟨z3, rfl⟩ | ⟨z3, rfl⟩)⟩
  · exact ⟨rfl, c1 z3 I1 J1 (fun a h1 h2 => (f1 a (by omega) (by omega)))⟩
  · exact ⟨rfl, c0 z3 I1 J1 (fun a h1 h2 => (f1 a (by omega) (by omega)))⟩
set_option maxHeartbeats 4000000 in
theorem H11 [NeZero p] {s t d' : Nat} {z0 z1 : Int32} {S0 S1 T0 T1 T2 : TR p D h} {post : Option Value → Me → Prop} (hK : Ksp K) (hM : HsM M o) (hA : TwA I (o + 1) p h D) (hz0 : z0 = nI s) (hz1 : z1 = nI t) (hs : s ≤ 60) (ht : t ≤ 60) (hS0 : Re I p D h (o + 26 + 3 * s + 0) S0) (hS1 : Re I p D h (o + 26 + 3 * s + 1) S1) (hT0 : Re I p D h (o + 26 + 3 * t + 0) T0) (hT1 : Re I p D h (o + 26 + 3 * t + 1) T1) (hT2 : Re I p D h (o + 26 + 3 * t + 2) T2) (hd : d + 4 ≤ d') (c1 : ((TI p D h).add ((TI p D h).add ((TI p D h).mul T0 S0) ((TI p D h).mul T1 S1)) T2) = ((TI p D h).ofNat 0).ofNat → ∀ I1 J1, (∀ a, a ≠ o + 217 → a ≠ o + 218 → I1 a = I a) → post (some (.int (Int32.ofInt 1))) (St M I1 J1)) (c0 : ¬ ((TI p D h).add ((TI p D h).add ((TI p D h).mul T0 S0) ((TI p D h).mul T1 S1)) T2) = ((TI p D h).ofNat 0).ofNat → ∀ I1 J1, (∀ a, a ≠ o + 217 → a ≠ o + 218 → I1 a = I a) → post (some (.int (Int32.ofInt 0))) (St M I1 J1)) : Ok K d' 11 [.ref o, .int z0, .int z1] (St M I J) post := by
  refine Ok.up (d := d + 4) (post := post) ?_ hd (fun _ _ h => h)
  subst hz0 hz1
  refine Ok.go (e := me_11) rfl rfl (Nat.le_of_ble_eq_true rfl) hM.c ?_
  refine Rf.go 300 [] ?_
  refine H22 (d := d) (s := t) (t := s) hK hM hA rfl rfl (by omega) (by omega) hT0 hT1 hS0 hS1 (by omega) (fun I1 J1 q1_0 f1 => ?_)
  refine And.intro hM.c ⟨o + 1, hM.r0, ?_⟩
  refine And.intro hM.c ⟨o + 218, hM.r11, ?_⟩
  refine (h_row (K := K) (d := d) (t := t) (i := 2) hM (by omega) (by omega) rfl rfl).up (by omega) ?_
  rintro r M1 ⟨rfl, rfl⟩
  refine And.intro hM.c ⟨o + 218, hM.r11, ?_⟩
  have q2 := (hT2).keep (f1 _ (by omega) (by omega))
  have hA3 := (hA).keep (fun a h1 h2 => f1 a (by omega) (by omega))
  refine Wr.go2 (e_addk (d := d)  hM.tw hA3.1 (hM.rc (by omega)) (hM.rc (by omega)) (hM.rc (by omega)) q1_0 q2) (by omega) (fun I4 J4 q4 f4 => ?_)
  refine And.intro hM.c ⟨o + 1, hM.r0, ?_⟩
  refine And.intro hM.c ⟨o + 218, hM.r11, ?_⟩
  have hA5 := (hA3).keep (fun a h1 h2 => f4 a (by omega))
  refine (t_isZeroE (d := d) hM.tc (hM.rc (by omega)) hA5.1.2.2.1 hA5.1.2.2.2.1.2 q4).up (by omega) ?_
  rintro r M1 ⟨rfl, (⟨z6, rfl⟩ | ⟨z6, rfl⟩)⟩
  · exact ⟨rfl, c1 z6 I4 J4 (fun a h1 h2 => ((f4 a (by omega)).trans (f1 a (by omega) (by omega))))⟩
  · exact ⟨rfl, c0 z6 I4 J4 (fun a h1 h2 => ((f4 a (by omega)).trans (f1 a (by omega) (by omega))))⟩
set_option maxHeartbeats 4000000 in
theorem H12 [NeZero p] {s t d' : Nat} {z0 z1 : Int32} {S0 S1 T0 T1 T2 : TR p D h} {post : Option Value → Me → Prop} (hK : Ksp K) (hM : HsM M o) (hA : TwA I (o + 1) p h D) (hz0 : z0 = nI s) (hz1 : z1 = nI t) (hs : s ≤ 60) (ht : t ≤ 60) (hS0 : Re I p D h (o + 26 + 3 * s + 0) S0) (hS1 : Re I p D h (o + 26 + 3 * s + 1) S1) (hT0 : Re I p D h (o + 26 + 3 * t + 0) T0) (hT1 : Re I p D h (o + 26 + 3 * t + 1) T1) (hT2 : Re I p D h (o + 26 + 3 * t + 2) T2) (hd : d + 4 ≤ d') (c1 : ((TI p D h).add ((TI p D h).mul ((TI p D h).sub S0 T0) ((TI p D h).sub S0 T0)) ((TI p D h).mul ((TI p D h).sub S1 T1) ((TI p D h).sub S1 T1))) = T2 → ∀ I1 J1, (∀ a, a ≠ o + 217 → a ≠ o + 218 → I1 a = I a) → post (some (.int (Int32.ofInt 1))) (St M I1 J1)) (c0 : ¬ ((TI p D h).add ((TI p D h).mul ((TI p D h).sub S0 T0) ((TI p D h).sub S0 T0)) ((TI p D h).mul ((TI p D h).sub S1 T1) ((TI p D h).sub S1 T1))) = T2 → ∀ I1 J1, (∀ a, a ≠ o + 217 → a ≠ o + 218 → I1 a = I a) → post (some (.int (Int32.ofInt 0))) (St M I1 J1)) : Ok K d' 12 [.ref o, .int z0, .int z1] (St M I J) post := by
  refine Ok.up (d := d + 4) (post := post) ?_ hd (fun _ _ h => h)
  subst hz0 hz1
  refine Ok.go (e := me_12) rfl rfl (Nat.le_of_ble_eq_true rfl) hM.c ?_
  refine Rf.go 300 [] ?_
  refine And.intro hM.c ⟨o + 218, hM.r11, ?_⟩
  refine H23 (d := d) (s := s) (t := t) hK hM hA rfl rfl (hM.rc (by omega)) (by omega) (by omega) (by omega) hS0 hS1 hT0 hT1 (by omega) (fun I1 J1 q1_0 f1 => ?_)
  refine And.intro hM.c ⟨o + 1, hM.r0, ?_⟩
  refine And.intro hM.c ⟨o + 218, hM.r11, ?_⟩
  refine (h_row (K := K) (d := d) (t := t) (i := 2) hM (by omega) (by omega) rfl rfl).up (by omega) ?_
  rintro r M1 ⟨rfl, rfl⟩
  have q2 := (hT2).keep (f1 _ (by omega) (by omega) (by omega))
  have hA3 := (hA).keep (fun a h1 h2 => f1 a (by omega) (by omega) (by omega))
  refine (t_areSameE (d := d) hM.tc (hM.rc (by omega)) (hM.rc (by omega)) hA3.1.2.2.1 hA3.1.2.2.2.1.2 q1_0 q2).up (by omega) ?_
  rintro r M1 ⟨rfl, (⟨z4, rfl⟩ | ⟨z4, rfl⟩)⟩
  · exact ⟨rfl, c1 z4 I1 J1 (fun a h1 h2 => (f1 a (by omega) (by omega) (by omega)))⟩
  · exact ⟨rfl, c0 z4 I1 J1 (fun a h1 h2 => (f1 a (by omega) (by omega) (by omega)))⟩
theorem h_unmake {z : Int32} {t g : Nat} (hM : HsM M o) (ht : t < 60) (hz : z = nI t) (hh : I (o + 1) 1 = nI h) (hg : I (o + 209) t = nI g) (hgh : g ≤ h) (h3 : h ≤ 3) : Ok K (d + 2) 15 [.ref o, .int z] (St M I J) (fun r M1 => r = none ∧ M1 = St M (u2 I (o + 1) 1 (nI (h - g))) J) := by
  refine Ok.go (e := me_15) rfl rfl (Nat.le_of_ble_eq_true rfl) hM.c ?_
  refine Rf.go 60 [] ?_
  refine And.intro hM.c ⟨o + 1, hM.r0, ?_⟩
  refine And.intro hM.c ⟨o + 1, hM.r0, ?_⟩
  refine And.intro hM.tc ?_
  refine (h_growthBy (d := d) (t := t) hM ht hz).up (by omega) ?_
  rintro r M1 ⟨rfl, rfl⟩
  refine And.intro (Nat.le_of_ble_eq_true rfl) ?_
  refine And.intro hM.tc ?_
  refine ⟨rfl, rfl, ?_⟩
  have e : (if Int32.ofInt 0 < I (o + 1) 1 - I (o + 209) t then I (o + 1) 1 - I (o + 209) t else Int32.ofInt 0) = nI (h - g) := by
    rw [hh, hg, pk_sub hgh]
    by_cases q : h - g = 0
    · rw [q]; rfl
    · exact if_pos (nI_lt (a := 0) (b := h - g) (by omega) (by omega))
  show wI (St M I J) (u2 I (o + 1) 1 (if Int32.ofInt 0 < I (o + 1) 1 - I (o + 209) t then I (o + 1) 1 - I (o + 209) t else Int32.ofInt 0)) = _
  rw [e]
  rfl
end H8
