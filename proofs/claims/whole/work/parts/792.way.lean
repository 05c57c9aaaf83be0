/-! on (model), way, one -/
noncomputable def ooA (n : Nat) (kd : Nat → Nat) (V : Nat → Nat → Nat → Nat) (s t : Int32) : Int32 := @ite _ (inL s n ∧ inL t n) (Classical.propDecidable _) (@ite _ (srt (kd (clp s)) = srt (kd (clp t)) ∧ ∀ i, i < szs (srt (kd (clp s))) → V (clp s) i = V (clp t) i) (Classical.propDecidable _) (Int32.ofInt 1) (Int32.ofInt 0)) (Int32.ofInt (-1))
/-- what the class's questions may change -/
def QfC (I I1 : Nat → Nat → Int32) (o : Nat) : Prop := ∀ a, ¬ (13 ≤ a ∧ a ≤ 36) → a ≠ o + 217 → a ≠ o + 218 → ¬ (o + 8 ≤ a ∧ a ≤ o + 11) → I1 a = I a
/-- what the model's questions may change -/
def QfM (I I1 : Nat → Nat → Int32) (m : Nat) : Prop := ∀ a, a ≠ m + 11 → a ≠ m + 16 → I1 a = I a
section Qc
variable {K : Ka} {d o o2 m p h n : Nat} {M : Me} {I : Nat → Nat → Int32} {J : Nat → Nat → Int64} {D : Nat → Nat → Nat} {kd : Nat → Nat} {tl : Nat → Nat → Int32} {V : Nat → Nat → Nat → Nat} {g : Nat → Nat} {s t : Int32}
theorem QfM.rg {G : Nat → Nat → Int32} : QfM I (rg I m G) m := fun _ h _ => rg_ne h
theorem MoT.rg {G : Nat → Nat → Int32} (hT : MoT I m n kd) : MoT (rg I m G) m n kd := ⟨by rw [rg_m]; exact hT.1, hT.2.1, fun s hs => by rw [rg_ne (by omega)]; exact hT.2.2 s hs⟩
theorem MR.fr [NeZero p] {I1 : Nat → Nat → Int32} (hR : MR I m p D h n kd tl V g) (hf : QfM I I1 m) : MR I1 m p D h n kd tl V g := by
  obtain ⟨mA, mT, mS, mV, mB⟩ := hR
  have e : ∀ q, q ≤ m + 10 → I1 q = I q := fun q hq => hf q (by omega) (by omega)
  refine ⟨mA.keep (by rw [e m (by omega)]) (by rw [e m (by omega)]) (e _ (by omega)) (e _ (by omega)), ⟨by rw [e m (by omega)]; exact mT.1, mT.2.1, fun s hs => by rw [e _ (by omega)]; exact mT.2.2 s hs⟩, fun t ht => ?_, fun s hs i hi => ⟨fun j hj => ?_, (mV s hs i hi).2⟩, fun q hq => ?_⟩
  · rw [e _ (by omega), e _ (by omega), e _ (by omega), e _ (by omega), e _ (by omega)]
    exact mS t ht
  · rw [e _ (by omega)]
    exact (mV s hs i hi).1 j hj
  · rw [e _ (by omega)]
    exact mB q hq
theorem CR.fr [NeZero p] {I1 : Nat → Nat → Int32} (ho : 37 ≤ o) (hR : CR I o p D h n kd tl V g) (hf : QfC I I1 o) : CR I1 o p D h n kd tl V g := by
  obtain ⟨⟨s1, s2, s3⟩, hTw, hv, hg⟩ := hR
  refine ⟨⟨by rw [hf 9 (by omega) (by omega) (by omega) (by omega)]; exact s1, s2, fun t ht => ?_⟩, hTw.keep (fun a h1 h2 => hf a (by omega) (by omega) (by omega) (by omega)), hv.keep (fun q h1 h2 => hf q (by omega) (by omega) (by omega) (by omega)), fun t ht => by rw [hf _ (by omega) (by omega) (by omega) (by omega)]; exact hg t ht⟩
  rw [hf 10 (by omega) (by omega) (by omega) (by omega), hf 11 (by omega) (by omega) (by omega) (by omega)]
  exact s3 t ht
theorem vOk.ext {v w : Nat → Nat} (hh : h ≤ 3) (hv : vOk p h v) (hw : vOk p h w) : v = w ↔ ∀ j, j < 8 → v j = w j := by
  constructor
  · exact fun q j _ => by rw [q]
  · intro q
    funext j
    by_cases c : j < 8
    · exact q j c
    · have := w8 hh
      rw [hv.2 j (by omega), hw.2 j (by omega)]
theorem vOk.oV [NeZero p] {v w : Nat → Nat} (hv : vOk p h v) (hw : vOk p h w) : oV p D h v = oV p D h w ↔ v = w := by
  constructor
  · intro q
    have q := congrArg (tV p D h) q
    rw [hv.tv, hw.tv] at q
    exact q
  · exact fun q => by rw [q]
theorem m_on [NeZero p] {d' : Nat} {post : Option Value → Me → Prop} (hM : MoM M m) (hR : MR I m p D h n kd tl V g) (hd : d + 4 ≤ d') (hp : ∀ I1 J1, QfM I I1 m → post (some (.int (onA p D h n kd V s t))) (St M I1 J1)) : Ok K d' 151 [.ref m, .int s, .int t] (St M I J) post := by
  obtain ⟨mA, mT, mS, mV, mB⟩ := hR
  have n6 := mT.2.1
  by_cases q : isT n kd s 1 ∧ (isT n kd t 2 ∨ isT n kd t 3)
  · obtain ⟨⟨a, ha, rfl, sa⟩, q2⟩ := q
    have ca : clp (nI a) = a := clp_n (by omega)
    rcases q2 with ⟨b, hb, rfl, sb⟩ | ⟨b, hb, rfl, sb⟩
    · have cb : clp (nI b) = b := clp_n (by omega)
      have e : onA p D h n kd V (nI a) (nI b) = _ := (if_pos ⟨(isT_n ha n6).mpr sa, Or.inl ((isT_n hb n6).mpr sb)⟩).trans (if_pos (by rw [cb]; exact sb))
      rw [ca, cb] at e
      have w := M151_2 (K := K) (d := d) (d' := d') (J := J) (post := post) (G := fun r j => I (m + 11) (8 * r + j)) hM mA (z0 := nI a) (z1 := nI b) rfl rfl (mV.v ha (by decide)) (mV.v ha (by decide)) (mV.v hb (by decide)) (mV.v hb (by decide)) (mV.v hb (by decide)) (fun G1 => mT.rg) n6 ha hb sa sb (by rw [(mT.2.2 b hb).1, sb]) hd (fun z G1 J1 => by have hp := hp (rg I m G1) J1 QfM.rg; rw [e, if_pos z] at hp; exact hp) (fun z G1 J1 => by have hp := hp (rg I m G1) J1 QfM.rg; rw [e, if_neg z] at hp; exact hp)
      rw [rg_self] at w
      exact w
    · have cb : clp (nI b) = b := clp_n (by omega)
      have e : onA p D h n kd V (nI a) (nI b) = _ := (if_pos ⟨(isT_n ha n6).mpr sa, Or.inr ((isT_n hb n6).mpr sb)⟩).trans (if_neg (by rw [cb, sb]; decide))
      rw [ca, cb] at e
      have w := M151_3 (K := K) (d := d) (d' := d') (J := J) (post := post) (G := fun r j => I (m + 11) (8 * r + j)) hM mA (z0 := nI a) (z1 := nI b) rfl rfl (mV.v ha (by decide)) (mV.v ha (by decide)) (mV.v hb (by decide)) (mV.v hb (by decide)) (mV.v hb (by decide)) (fun G1 => mT.rg) n6 ha hb sa sb (by rw [(mT.2.2 b hb).1, sb]) hd (fun z G1 J1 => by have hp := hp (rg I m G1) J1 QfM.rg; rw [e, if_pos z] at hp; exact hp) (fun z G1 J1 => by have hp := hp (rg I m G1) J1 QfM.rg; rw [e, if_neg z] at hp; exact hp)
      rw [rg_self] at w
      exact w
  · have hp := hp I J (fun _ _ _ => rfl)
    rw [show onA p D h n kd V s t = Int32.ofInt (-1) from if_neg q] at hp
    refine Ok.up (d := d + 4) (post := post) ?_ hd (fun _ _ h => h)
    refine Ok.go (e := me_151) rfl rfl (Nat.le_of_ble_eq_true rfl) hM.c ?_
    refine Rf.go 20 [11] ?_
    refine m_isOf (d := d) (s := 1) hM mT rfl (by decide) (by omega) (fun q1 => ?_) (fun _ => ?_)
    · refine And.intro (fun w => absurd w (by decide)) (fun _ => ?_)
      refine m_isRound (d := d) hM mT (by omega) (fun q2 => absurd ⟨q1, q2⟩ q) (fun _ => ?_)
      exact And.intro (fun w => absurd w (by decide)) (fun _ => ⟨rfl, hp⟩)
    · exact And.intro (fun _ => ⟨rfl, hp⟩) (fun w => absurd (by decide) w)
theorem m_way [NeZero p] {d' : Nat} {post : Option Value → Me → Prop} (hM : MoM M m) (hR : MR I m p D h n kd tl V g) (hA : AS p D h n kd tl V g) (hd : d + 4 ≤ d') (hp : ∀ I1 J1, QfM I I1 m → post (some (.int (wyA p D h n kd V s t))) (St M I1 J1)) : Ok K d' 152 [.ref m, .int s, .int t] (St M I J) post := by
  obtain ⟨mA, mT, mS, mV, mB⟩ := hR
  have n6 := mT.2.1
  by_cases q : isT n kd s 2 ∧ isT n kd t 2
  · obtain ⟨⟨a, ha, rfl, sa⟩, ⟨b, hb, rfl, sb⟩⟩ := q
    have ca : clp (nI a) = a := clp_n (by omega)
    have cb : clp (nI b) = b := clp_n (by omega)
    have e : wyA p D h n kd V (nI a) (nI b) = _ := if_pos ⟨(isT_n ha n6).mpr sa, (isT_n hb n6).mpr sb⟩
    rw [ca, cb] at e
    have lc := LnOk.cr (D := D) mA.2.2.2.1 mA.2.2.2.2 mA.2.2.1 (hA.2.1 a ha sa) (hA.2.1 b hb sb)
    have w := M152 (K := K) (d := d) (d' := d') (J := J) (post := post) (G := fun r j => I (m + 11) (8 * r + j)) hM mA (z0 := nI a) (z1 := nI b) rfl rfl (mV.v ha (by decide)) (mV.v ha (by decide)) (mV.v hb (by decide)) (mV.v hb (by decide)) (fun G1 => mT.rg) n6 ha hb sa sb (by rw [(mT.2.2 b hb).1, sb]) hd (fun z G1 J1 => by have hp := hp (rg I m G1) J1 QfM.rg; rw [e, if_pos z] at hp; exact hp) (fun z y G1 J1 => by have hp := hp (rg I m G1) J1 QfM.rg; rw [e, if_neg z, if_pos (lc.mp y)] at hp; exact hp) (fun z y G1 J1 => by have hp := hp (rg I m G1) J1 QfM.rg; rw [e, if_neg z, if_neg (fun v => y (lc.mpr v))] at hp; exact hp)
    rw [rg_self] at w
    exact w
  · have hp := hp I J (fun _ _ _ => rfl)
    rw [show wyA p D h n kd V s t = Int32.ofInt (-1) from if_neg q] at hp
    refine Ok.up (d := d + 4) (post := post) ?_ hd (fun _ _ h => h)
    refine Ok.go (e := me_152) rfl rfl (Nat.le_of_ble_eq_true rfl) hM.c ?_
    refine Rf.go 20 [12] ?_
    refine m_isOf (d := d) (s := 2) hM mT rfl (by decide) (by omega) (fun q1 => ?_) (fun _ => ?_)
    · refine And.intro (fun w => absurd w (by decide)) (fun _ => ?_)
      refine m_isOf (d := d) (s := 2) hM mT rfl (by decide) (by omega) (fun q2 => absurd ⟨q1, q2⟩ q) (fun _ => ?_)
      exact And.intro (fun w => absurd w (by decide)) (fun _ => ⟨rfl, hp⟩)
    · exact And.intro (fun _ => ⟨rfl, hp⟩) (fun w => absurd (by decide) w)
set_option maxHeartbeats 1000000 in
theorem c_way [NeZero p] {d' : Nat} {post : Option Value → Me → Prop} (hK : Kst K) (hM : CtM M o o2) (hR : CR I o p D h n kd tl V g) (hd : d + 5 ≤ d') (hp : ∀ I1 J1, (∀ a, a ≠ o + 217 → a ≠ o + 218 → I1 a = I a) → post (some (.int (wyA p D h n kd V s t))) (St M I1 J1)) : Ok K d' 82 [.ref 8, .int s, .int t] (St M I J) post := by
  refine Ok.up (d := d + 5) (post := post) ?_ hd (fun _ _ h => h)
  obtain ⟨hC, ⟨r0, r1, r2, r3⟩, hS, hH, hH2, hoo⟩ := hM
  obtain ⟨⟨s1, s2, s3⟩, hTw, hv, hg⟩ := hR
  have hkd : ∀ s, s < n → I (9 + 1) s = nI (kd s) ∧ kd s < 14 := fun s hs => (s3 s hs).1
  have no : ¬ (isT n kd s 2 ∧ isT n kd t 2) → wyA p D h n kd V s t = Int32.ofInt (-1) := fun q => if_neg q
  have hp0 := hp I J (fun _ _ _ => rfl)
  have hK0 := hK.1
  refine Ok.go (e := me_82) rfl rfl (Nat.le_of_ble_eq_true rfl) hC ?_
  refine Rf.go 100 [] ?_
  refine And.intro hC ⟨9, r0, ?_⟩
  refine s_sortAny (d := d) hK hS s1 s2 hkd (by omega) (fun a ha hat => ?_) (fun hna => ?_)
  · have ha4 := srt_lt (kd a) (s3 a ha).1.2
    refine And.intro (fun q => ?_) (fun q => ?_)
    · have q : ¬ nI (srt (kd a)) = Int32.ofInt 2 := of_decide_eq_true q
      rw [no (fun w => q (by rw [hat] at w; rw [(isT_n ha s2).mp w.1]; rfl))] at hp0
      exact ⟨rfl, hp0⟩
    have qa : srt (kd a) = 2 := by
      have q : nI (srt (kd a)) = Int32.ofInt 2 := Classical.not_not.mp (fun w => q (decide_eq_true w))
      exact (nI_eq (b := 2) (by omega) (by omega)).mp q
    refine And.intro hC ⟨9, r0, ?_⟩
    refine s_sortAny (d := d) hK hS s1 s2 hkd (by omega) (fun b hb hbt => ?_) (fun hnb => ?_)
    · have hb4 := srt_lt (kd b) (s3 b hb).1.2
      subst hbt hat
      have ca : clp (nI a) = a := clp_n (by omega)
      have cb : clp (nI b) = b := clp_n (by omega)
      refine And.intro (fun q => ?_) (fun q => ?_)
      · have q : nI (srt (kd b)) = Int32.ofInt 2 := of_decide_eq_true q
        have qb : srt (kd b) = 2 := (nI_eq (b := 2) (by omega) (by omega)).mp q
        have va : ∀ i, i < 3 → Re I p D h (o + 26 + 3 * a + i) (oV p D h (V a i)) := fun i hi => hv.re ha (szs_of (s := 2) qa hi)
        have vb : ∀ i, i < 3 → Re I p D h (o + 26 + 3 * b + i) (oV p D h (V b i)) := fun i hi => hv.re hb (szs_of (s := 2) qb hi)
        have e : wyA p D h n kd V (nI a) (nI b) = _ := if_pos ⟨(isT_n ha s2).mpr qa, (isT_n hb s2).mpr qb⟩
        rw [ca, cb] at e
        refine And.intro hC ⟨o, r2, ?_⟩
        refine H13 (d := d) (s := a) (t := b) hK0 hH hTw rfl rfl (by omega) (by omega) (va 0 (by decide)) (va 1 (by decide)) (vb 0 (by decide)) (vb 1 (by decide)) (by omega) (fun z I1 J1 f => ?_) (fun z I1 J1 f => ?_)
        · have hp := hp I1 J1 f
          rw [e, if_pos z] at hp
          exact And.intro (fun w => absurd w (by decide)) (fun _ => ⟨rfl, hp⟩)
        · have hp := hp I1 J1 f
          rw [e, if_neg z] at hp
          refine And.intro (fun _ => ?_) (fun w => absurd (by decide) w)
          refine And.intro hC ⟨o, r2, ?_⟩
          have va1 : ∀ i, i < 3 → Re I1 p D h (o + 26 + 3 * a + i) (oV p D h (V a i)) := fun i hi => (va i hi).keep (f _ (by omega) (by omega))
          have vb1 : ∀ i, i < 3 → Re I1 p D h (o + 26 + 3 * b + i) (oV p D h (V b i)) := fun i hi => (vb i hi).keep (f _ (by omega) (by omega))
          refine H10_2 (d := d) (s := a) (t := b) hK0 hH (hTw.keep (fun a h1 h2 => f a (by omega) (by omega))) rfl rfl rfl (by omega) (by omega) (va1 0 (by decide)) (va1 1 (by decide)) (vb1 0 (by decide)) (vb1 1 (by decide)) (by omega) (fun z1 z2 => ?_) (fun z1 => ?_)
          · rw [if_pos ⟨z1, z2⟩] at hp
            exact And.intro (fun w => absurd w (by decide)) (fun _ => ⟨rfl, hp⟩)
          · rw [if_neg z1] at hp
            exact And.intro (fun _ => ⟨rfl, hp⟩) (fun w => absurd (by decide) w)
      · have qb : ¬ srt (kd b) = 2 := fun w => q (decide_eq_true (by rw [w]; rfl))
        rw [no (fun w => qb ((isT_n hb s2).mp w.2))] at hp0
        exact ⟨rfl, hp0⟩
    · rw [no (fun w => isT_no hnb w.2)] at hp0
      exact And.intro (fun w => absurd w (by decide)) (fun _ => ⟨rfl, hp0⟩)
  · rw [no (fun w => isT_no hna w.1)] at hp0
    exact And.intro (fun _ => ⟨rfl, hp0⟩) (fun w => absurd (by decide) w)
theorem h_agree [NeZero p] {a b so d' : Nat} {post : Option Value → Me → Prop} (hK : Ksp K) (hH : HsM M o) (hTw : TwA I (o + 1) p h D) (ha : a ≤ 60) (hb : b ≤ 60) (hso : so < 4) (va : ∀ i, i < szs so → Re I p D h (o + 26 + 3 * a + i) (oV p D h (V a i))) (vb : ∀ i, i < szs so → Re I p D h (o + 26 + 3 * b + i) (oV p D h (V b i))) (hd : d + 3 ≤ d') (c1 : (∀ i, i < szs so → oV p D h (V a i) = oV p D h (V b i)) → post (some (.int (Int32.ofInt 1))) (St M I J)) (c0 : ¬ (∀ i, i < szs so → oV p D h (V a i) = oV p D h (V b i)) → post (some (.int (Int32.ofInt 0))) (St M I J)) : Ok K d' 10 [.ref o, .int (nI a), .int (nI b), .int (nI (szs so))] (St M I J) post := by
  have three : ∀ {P : Nat → Prop}, (P 0 ∧ P 1 ∧ P 2) ↔ ∀ i, i < 3 → P i := fun {P} => ⟨fun q i hi => by rcases (show i = 0 ∨ i = 1 ∨ i = 2 by omega) with rfl | rfl | rfl; exact q.1; exact q.2.1; exact q.2.2, fun q => ⟨q 0 (by decide), q 1 (by decide), q 2 (by decide)⟩⟩
  have two : ∀ {P : Nat → Prop}, (P 0 ∧ P 1) ↔ ∀ i, i < 2 → P i := fun {P} => ⟨fun q i hi => by rcases (show i = 0 ∨ i = 1 by omega) with rfl | rfl; exact q.1; exact q.2, fun q => ⟨q 0 (by decide), q 1 (by decide)⟩⟩
  have onee : ∀ {P : Nat → Prop}, P 0 ↔ ∀ i, i < 1 → P i := fun {P} => ⟨fun q i hi => by rw [show i = 0 by omega]; exact q, fun q => q 0 (by decide)⟩
  have t3' : ∀ so, szs so = 3 → (∀ i, i < szs so → Re I p D h (o + 26 + 3 * a + i) (oV p D h (V a i))) → (∀ i, i < szs so → Re I p D h (o + 26 + 3 * b + i) (oV p D h (V b i))) → ((∀ i, i < szs so → oV p D h (V a i) = oV p D h (V b i)) → post (some (.int (Int32.ofInt 1))) (St M I J)) → (¬ (∀ i, i < szs so → oV p D h (V a i) = oV p D h (V b i)) → post (some (.int (Int32.ofInt 0))) (St M I J)) → Ok K d' 10 [.ref o, .int (nI a), .int (nI b), .int (nI (szs so))] (St M I J) post := by
    intro so e va vb c1 c0
    rw [e] at va vb c1 c0 ⊢
    exact H10_3 (d := d) (s := a) (t := b) hK hH hTw rfl rfl rfl ha hb (va 0 (by decide)) (va 1 (by decide)) (va 2 (by decide)) (vb 0 (by decide)) (vb 1 (by decide)) (vb 2 (by decide)) hd (fun z1 z2 z3 => c1 (three.mp ⟨z1, z2, z3⟩)) (fun z => c0 (fun w => z (three.mpr w)))
  rcases (show so = 0 ∨ so = 1 ∨ so = 2 ∨ so = 3 by omega) with rfl | rfl | rfl | rfl
  · exact H10_1 (d := d) (s := a) (t := b) hK hH hTw rfl rfl rfl ha hb (va 0 (by decide)) (vb 0 (by decide)) hd (fun z => c1 (onee.mp z)) (fun z => c0 (fun w => z (onee.mpr w)))
  · exact H10_2 (d := d) (s := a) (t := b) hK hH hTw rfl rfl rfl ha hb (va 0 (by decide)) (va 1 (by decide)) (vb 0 (by decide)) (vb 1 (by decide)) hd (fun z1 z2 => c1 (two.mp ⟨z1, z2⟩)) (fun z => c0 (fun w => z (two.mpr w)))
  · exact t3' 2 rfl va vb c1 c0
  · exact t3' 3 rfl va vb c1 c0
theorem c_one [NeZero p] {d' : Nat} {post : Option Value → Me → Prop} (hK : Kst K) (hM : CtM M o o2) (hR : CR I o p D h n kd tl V g) (hd : d + 4 ≤ d') (hp : post (some (.int (ooA n kd V s t))) (St M I J)) : Ok K d' 80 [.ref 8, .int s, .int t] (St M I J) post := by
  refine Ok.up (d := d + 4) (post := post) ?_ hd (fun _ _ h => h)
  obtain ⟨hC, ⟨r0, r1, r2, r3⟩, hS, hH, hH2, hoo⟩ := hM
  obtain ⟨⟨s1, s2, s3⟩, hTw, hv, hg⟩ := hR
  have no : ¬ (inL s n ∧ inL t n) → ooA n kd V s t = Int32.ofInt (-1) := fun q => if_neg q
  refine Ok.go (e := me_80) rfl rfl (Nat.le_of_ble_eq_true rfl) hC ?_
  refine Rf.go 100 [] ?_
  refine And.intro hC ⟨9, r0, ?_⟩
  refine (s_has (d := d) hS s1).up (by omega) ?_
  rintro r M1 ⟨rfl, rfl⟩
  cases hh : hsb n s with
  | false =>
    rw [no (fun w => by rw [(hsb_iff s2).mpr w.1] at hh; cases hh)] at hp
    exact And.intro (fun _ => ⟨rfl, hp⟩) (fun w => absurd (by decide) w)
  | true =>
    obtain ⟨a, ha, rfl⟩ := hsb_t hh s2
    refine And.intro (fun w => absurd w (by decide)) (fun _ => ?_)
    refine And.intro hC ⟨9, r0, ?_⟩
    refine (s_has (d := d) hS s1).up (by omega) ?_
    rintro r M1 ⟨rfl, rfl⟩
    cases hh2 : hsb n t with
    | false =>
      rw [no (fun w => by rw [(hsb_iff s2).mpr w.2] at hh2; cases hh2)] at hp
      exact And.intro (fun w => absurd w (by decide)) (fun _ => ⟨rfl, hp⟩)
    | true =>
      obtain ⟨b, hb, rfl⟩ := hsb_t hh2 s2
      have ca : clp (nI a) = a := clp_n (by omega)
      have cb : clp (nI b) = b := clp_n (by omega)
      obtain ⟨k1, k2⟩ := (s3 a ha).1
      obtain ⟨l1, l2⟩ := (s3 b hb).1
      have ha4 := srt_lt (kd a) k2
      have hb4 := srt_lt (kd b) l2
      have e : ooA n kd V (nI a) (nI b) = _ := if_pos ⟨⟨a, ha, rfl⟩, b, hb, rfl⟩
      rw [ca, cb] at e
      rw [e] at hp
      refine And.intro (fun _ => ?_) (fun w => absurd (by decide) w)
      refine And.intro hC ⟨9, r0, ?_⟩
      refine (s_sortOf (d := d) hK hS s1 s2 ha k1 k2 rfl).up (by omega) ?_
      rintro r M1 ⟨rfl, rfl⟩
      refine And.intro hC ⟨9, r0, ?_⟩
      refine (s_sortOf (d := d) hK hS s1 s2 hb l1 l2 rfl).up (by omega) ?_
      rintro r M1 ⟨rfl, rfl⟩
      refine And.intro (fun q => ?_) (fun q => ?_)
      · have q : ¬ nI (srt (kd a)) = nI (srt (kd b)) := of_decide_eq_true q
        rw [if_neg (fun w => q (by rw [w.1]))] at hp
        exact ⟨rfl, hp⟩
      · have q : nI (srt (kd a)) = nI (srt (kd b)) := Classical.not_not.mp (fun w => q (decide_eq_true w))
        have q := (nI_eq (by omega) (by omega)).mp q
        refine And.intro hC ⟨o, r2, ?_⟩
        refine And.intro hC ⟨9, r0, ?_⟩
        refine (s_rowsOf (d := d) hK hS s1 s2 ha k1 k2 rfl).up (by omega) ?_
        rintro r M1 ⟨rfl, rfl⟩
        have qz : ∀ i, i < szs (srt (kd a)) → i < szs ((fun s => srt (kd s)) b) := fun i hi => by show i < szs (srt (kd b)); rw [← q]; exact hi
        have eq : (∀ i, i < szs (srt (kd a)) → oV p D h (V a i) = oV p D h (V b i)) ↔ ∀ i, i < szs (srt (kd a)) → V a i = V b i := ⟨fun w i hi => ((hv a ha i hi).2.oV (hv b hb i (qz i hi)).2).mp (w i hi), fun w i hi => by rw [w i hi]⟩
        refine h_agree (d := d) (V := V) hK.1 hH hTw (by omega) (by omega) ha4 (fun i hi => hv.re ha hi) (fun i hi => hv.re hb (qz i hi)) (by omega) (fun z => ?_) (fun z => ?_)
        · rw [if_pos ⟨q, eq.mp z⟩] at hp
          exact And.intro (fun w => absurd w (by decide)) (fun _ => ⟨rfl, hp⟩)
        · rw [if_neg (fun w => z (eq.mpr w.2))] at hp
          exact And.intro (fun _ => ⟨rfl, hp⟩) (fun w => absurd (by decide) w)
theorem m_one' [NeZero p] {G : Nat → Nat → Int32} {d' : Nat} {post : Option Value → Me → Prop} (hM : MoM M m) (hR : MR I m p D h n kd tl V g) (hd : d + 3 ≤ d') (hp : post (some (.int (ooA n kd V s t))) (St M (rg I m G) J)) : Ok K d' 150 [.ref m, .int s, .int t] (St M (rg I m G) J) post := by
  refine Ok.up (d := d + 3) (post := post) ?_ hd (fun _ _ h => h)
  obtain ⟨mA, mT, mS, mV, mB⟩ := hR
  have n6 := mT.2.1
  have hh3 := mA.1.2.2.1
  have no : ¬ (inL s n ∧ inL t n) → ooA n kd V s t = Int32.ofInt (-1) := fun q => if_neg q
  refine Ok.go (e := me_150) rfl rfl (Nat.le_of_ble_eq_true rfl) hM.c ?_
  refine Rf.go 100 [] ?_
  refine m_isThing (d := d) hM mT.rg (by omega) (fun q => ?_) (fun q => ?_)
  · refine And.intro (fun w => absurd w (by decide)) (fun _ => ?_)
    refine m_isThing (d := d) hM mT.rg (by omega) (fun q2 => ?_) (fun q2 => ?_)
    · refine And.intro (fun _ => ?_) (fun w => absurd (by decide) w)
      obtain ⟨a, ha, rfl⟩ := q
      obtain ⟨b, hb, rfl⟩ := q2
      have ca : clp (nI a) = a := clp_n (by omega)
      have cb : clp (nI b) = b := clp_n (by omega)
      obtain ⟨k1, k2⟩ := mT.2.2 a ha
      obtain ⟨l1, l2⟩ := mT.2.2 b hb
      have ha4 := srt_lt (kd a) k2
      have hb4 := srt_lt (kd b) l2
      have e : ooA n kd V (nI a) (nI b) = _ := if_pos ⟨⟨a, ha, rfl⟩, b, hb, rfl⟩
      rw [ca, cb] at e
      rw [e] at hp
      refine m_areOneR (d := d) (s := a) (t := b) hM rfl rfl (by omega) (by omega) (by omega) (fun bb hb9 => ?_)
      have key : (I (m + 5) a = I (m + 5) b ∧ ∀ j, j < 24 → I (m + 7) (24 * a + j) = I (m + 7) (24 * b + j)) ↔ (srt (kd a) = srt (kd b) ∧ ∀ i, i < szs (srt (kd a)) → V a i = V b i) := by
        rw [k1, l1, nI_eq (by omega) (by omega)]
        constructor
        · rintro ⟨w1, w2⟩
          refine ⟨w1, fun i hi => ((mV a ha i (by have := szs_le (srt (kd a)); omega)).2.1.ext hh3 (mV b hb i (by have := szs_le (srt (kd a)); omega)).2.1).mpr (fun j hj => ?_)⟩
          have hi3 : i < 3 := by have := szs_le (srt (kd a)); omega
          have w := w2 (8 * i + j) (by omega)
          rw [← Nat.add_assoc, ← Nat.add_assoc, (mV a ha i hi3).1 j hj, (mV b hb i hi3).1 j hj] at w
          have b1 := (mV a ha i hi3).2.1.1 j
          have b2 := (mV b hb i hi3).2.1.1 j
          have b3 := mA.1.2.2.2.1.2
          exact (nI_eq (by omega) (by omega)).mp w
        · rintro ⟨w1, w2⟩
          refine ⟨w1, fun j hj => ?_⟩
          have e1 : ∀ x, 24 * x + j = 24 * x + 8 * (j / 8) + j % 8 := fun x => by omega
          rw [e1, e1, (mV a ha (j / 8) (by omega)).1 (j % 8) (by omega), (mV b hb (j / 8) (by omega)).1 (j % 8) (by omega)]
          by_cases c : j / 8 < szs (srt (kd a))
          · rw [w2 _ c]
          · rw [(mV a ha (j / 8) (by omega)).2.2 (show szs (srt (kd a)) ≤ j / 8 by omega), (mV b hb (j / 8) (by omega)).2.2 (show szs (srt (kd b)) ≤ j / 8 by rw [← w1]; omega)]
      have key := hb9.trans key
      cases bb with
      | true =>
        rw [if_pos (key.mp rfl)] at hp
        exact And.intro (fun w => absurd w (by decide)) (fun _ => ⟨rfl, hp⟩)
      | false =>
        rw [if_neg (fun w => by cases key.mpr w)] at hp
        exact And.intro (fun _ => ⟨rfl, hp⟩) (fun w => absurd (by decide) w)
    · rw [no (fun w => q2 w.2)] at hp
      exact And.intro (fun w => absurd w (by decide)) (fun _ => ⟨rfl, hp⟩)
  · rw [no (fun w => q w.1)] at hp
    exact And.intro (fun _ => ⟨rfl, hp⟩) (fun w => absurd (by decide) w)
theorem m_one [NeZero p] {d' : Nat} {post : Option Value → Me → Prop} (hM : MoM M m) (hR : MR I m p D h n kd tl V g) (hd : d + 3 ≤ d') (hp : post (some (.int (ooA n kd V s t))) (St M I J)) : Ok K d' 150 [.ref m, .int s, .int t] (St M I J) post := by
  have w := m_one' (K := K) (d := d) (d' := d') (J := J) (post := post) (s := s) (t := t) (G := fun r j => I (m + 11) (8 * r + j)) hM hR hd (by rw [rg_self]; exact hp)
  rw [rg_self] at w
  exact w
end Qc
