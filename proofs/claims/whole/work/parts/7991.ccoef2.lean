/-! coefficient: the class, its end -/
section Qj
variable {K : Ka} {d o o2 m p h n : Nat} {M : Me} {I G : Nat → Nat → Int32} {J : Nat → Nat → Int64} {D : Nat → Nat → Nat} {kd : Nat → Nat} {tl : Nat → Nat → Int32} {V : Nat → Nat → Nat → Nat} {g : Nat → Nat} {s t u : Int32}
theorem cj_p [NeZero p] {X : TR p D h} {e k : Nat} : @pw (TR p D h) (TI p D h) (cj p D h X e) (p ^ 2 ^ k) = cj p D h X (e + 2 ^ k) := by
  unfold cj
  rw [Nat.pow_add, @pw_mul (TR p D h) (TI p D h)]
theorem p_sq (p k : Nat) : p ^ 2 ^ k * p ^ 2 ^ k = p ^ 2 ^ (k + 1) := by
  rw [← Nat.pow_add, ← Nat.two_mul, Nat.pow_succ, Nat.mul_comm]
/-- the polynomial after j stages -/
def plY (p : Nat) [NeZero p] (D : Nat → Nat → Nat) (h L : Nat) (X : TR p D h) (j : Nat) : Nat → TR p D h := @prd (TR p D h) (TI p D h) ((exs L j).map (cj p D h X))
theorem plY_s [NeZero p] {X : TR p D h} {L j k : Nat} (hF : @Fl (TR p D h) (TI p D h) p (2 ^ h)) (hk : k = L - 1 - j) : @cnv (TR p D h) (TI p D h) (plY p D h L X j) (fun i => @pw (TR p D h) (TI p D h) (plY p D h L X j i) (p ^ 2 ^ k)) = plY p D h L X (j + 1) ∧ plY p D h L X (j + 1) = @prd (TR p D h) (TI p D h) ((exs L j).map (cj p D h X) ++ ((exs L j).map (cj p D h X)).map (fun x => @pw (TR p D h) (TI p D h) x (p ^ 2 ^ k))) := by
  have hm := @Fl.hm (TR p D h) (TI p D h) p (2 ^ h) hF (2 ^ k)
  have e1 : (fun i => @pw (TR p D h) (TI p D h) (plY p D h L X j i) (p ^ 2 ^ k)) = @prd (TR p D h) (TI p D h) (((exs L j).map (cj p D h X)).map (fun x => @pw (TR p D h) (TI p D h) x (p ^ 2 ^ k))) := funext (fun i => @Hm.pm (TR p D h) (TI p D h) _ hm _ i)
  have e2 : (exs L (j + 1)).map (cj p D h X) = (exs L j).map (cj p D h X) ++ ((exs L j).map (cj p D h X)).map (fun x => @pw (TR p D h) (TI p D h) x (p ^ 2 ^ k)) := by
    show (exs L j ++ (exs L j).map (fun e => e + 2 ^ (L - 1 - j))).map (cj p D h X) = _
    rw [List.map_append, List.map_map, List.map_map]
    congr 1
    refine List.map_congr_left (fun e _ => ?_)
    show cj p D h X (e + 2 ^ (L - 1 - j)) = @pw (TR p D h) (TI p D h) (cj p D h X e) (p ^ 2 ^ k)
    rw [cj_p, hk]
  have e3 : plY p D h L X (j + 1) = @prd (TR p D h) (TI p D h) ((exs L j).map (cj p D h X) ++ ((exs L j).map (cj p D h X)).map (fun x => @pw (TR p D h) (TI p D h) x (p ^ 2 ^ k))) := by
    unfold plY
    rw [e2]
  refine ⟨?_, e3⟩
  rw [e1, e3]
  exact @cnv_prd (TR p D h) (TI p D h) _ _
set_option maxHeartbeats 1000000 in
theorem f_coef [NeZero p] {T x L i d' : Nat} {z : Int32} {X : TR p D h} {post : Option Value → Me → Prop} (hK : Ksp K) (hF : FcM M) (hT : TwM M T) (hT37 : 37 ≤ T) (hA : TwA I T p h D) (hx : rc M x) (fx : x < 13 ∨ 36 < x) (hz : z = nI i) (hX : Re I p D h x X) (hLv : lvU (I x) 8 = L) (hL : Lev p D h X L) (hLh : L ≤ h) (hi : i ≤ 2 ^ L) (hd : d + 4 ≤ d') (hp : ∀ I1 J1, (∀ a, ¬ (14 ≤ a ∧ a ≤ 35) → I1 a = I a) → post (some (.int (nI (tV p D h (@prd (TR p D h) (TI p D h) ((dwn (2 ^ L)).map (cj p D h X)) i) 0)))) (St M I1 J1)) : Ok K d' 1 [.ref 12, .ref T, .ref x, .int z] (St M I J) post := by
  refine Ok.up (d := d + 4) (post := post) ?_ hd (fun _ _ h => h)
  subst hz
  have hF' := hF
  obtain ⟨fc, ⟨p0, pc, plen, pr⟩, -, -, -, frc⟩ := hF
  have hF2 : ∀ {a : Nat}, (14 ≤ a ∧ a ≤ 22) ∨ (24 ≤ a ∧ a ≤ 28) ∨ (30 ≤ a ∧ a ≤ 36) → rc M a := fun {a} h => frc a h
  have pa : ∀ (z : Int32) (i : Nat), z = nI i → i < 9 → (isC M 13 13 = true ∧ inb z (mH M 13).2 = true) ∧ mR M 13 z.toNatClampNeg = some (14 + i) := fun z i hz hi => by
    subst hz
    rw [nI_clamp (by omega), plen]
    exact ⟨⟨pc, inb_n hi (by omega)⟩, pr i hi⟩
  have hA' := hA
  obtain ⟨hI, hTF, hTB, hTk, hpr, hodd⟩ := hA
  have hh3 := hI.2.2.1
  have pb := hI.2.2.2.1
  have hFl := tw_Fl hpr hodd h hTk
  obtain ⟨b1, b8⟩ := p2L (L := L) (by omega)
  refine Ok.go (e := me_1) rfl rfl (Nat.le_of_ble_eq_true rfl) fc ?_
  have key : ∀ j, j ≤ L → ∀ I1 J1, (∀ c, c ≤ 2 ^ j → Re I1 p D h (14 + c) (plY p D h L X j c)) → (∀ c, @pw (TR p D h) (TI p D h) (plY p D h L X j c) (p ^ 2 ^ (L - j)) = plY p D h L X j c) → (∀ a, ¬ (14 ≤ a ∧ a ≤ 35) → I1 a = I a) → Rf K (d + 3) mc_1 20 (lk [(5, .int (nI (L - j))), (4, .int (nI (2 ^ j))), (0, .ref 12), (1, .ref T), (3, .int (nI i))]) [] (St M I1 J1) (fun r M1 => rok me_1.2.2.2.1 r = true ∧ post r M1) := by
    refine for_up L ?_ (fun j hj ih => ?_)
    · intro I1 J1 ha hv hf
      refine Rf.go 100 [20] ?_
      refine And.intro (fun _ => ?_) (fun q => absurd (by rw [Nat.sub_self]; decide) q)
      refine And.intro (fun q => absurd (of_decide_eq_true q) (nI_pos (by omega))) (fun _ => ?_)
      refine And.intro (fun q => absurd ((gtN (by omega) (by omega)).mp q) (by omega)) (fun _ => ?_)
      refine And.intro (fun q => absurd ((gtN (n := 8) (by omega) (by decide)).mp q) (by omega)) (fun _ => ?_)
      refine And.intro fc ⟨13, p0, ?_⟩
      refine And.intro (pa _ i rfl (by omega)).1 ⟨14 + i, (pa _ i rfl (by omega)).2, ?_⟩
      have r14 : rc M (14 + i) := hF2 (by omega)
      refine Or.inr (And.intro ⟨r14.1, rc_in r14 (i := 0) (by decide)⟩ ?_)
      have hp := hp I1 J1 hf
      have e : plY p D h L X L = @prd (TR p D h) (TI p D h) ((dwn (2 ^ L)).map (cj p D h X)) := @prd_perm (TR p D h) (TI p D h) _ _ ((exs_dwn L (by omega)).map _)
      rw [← e, ← ha i hi 0 (by decide)] at hp
      exact ⟨rfl, hp⟩
    · intro I1 J1 ha hv hf
      have h2j : 2 ^ j ≤ 4 := Nat.pow_le_pow_right (n := 2) (i := j) (j := 2) (by decide) (by omega)
      have eL : L - j = (L - 1 - j) + 1 := by omega
      obtain ⟨s1, s2⟩ := plY_s (X := X) (L := L) (j := j) hFl rfl
      refine Rf.go 100 [20] ?_
      refine And.intro (fun q => absurd ((le0N (by omega)).mp q) (by omega)) (fun _ => ?_)
      refine f_mirror (d := d) (k := L - 1 - j) (l := 2 ^ j) (P := plY p D h L X j) hK hF' hT hT37 (hA'.keep (fun a h1 h2 => hf a (by omega))) (by rw [eL]) rfl h2j (by omega) ha (fun c hc => ?_) (fun c => by rw [← eL]; exact hv c) (by omega) (fun I2 J2 ha2 hf2 => ?_)
      · refine @prd_hi (TR p D h) (TI p D h) _ c ?_
        rw [List.length_map, exs_len]
        exact hc
      · rw [s1] at ha2
        have e5 : nI (L - j) + Int32.ofInt (-1) = nI (L - (j + 1)) := by
          rw [eL, show L - (j + 1) = L - 1 - j by omega]
          exact pk_m1 _
        have e4 : nI (2 ^ j) * Int32.ofInt 2 = nI (2 ^ (j + 1)) := pk_mul (2 ^ j) 2
        refine Rf.weak [(5, .int (nI (L - (j + 1)))), (4, .int (nI (2 ^ (j + 1)))), (0, .ref 12), (1, .ref T), (3, .int (nI i))] ⟨congrArg (fun z => some (Value.int z)) e5, congrArg (fun z => some (Value.int z)) e4, rfl, rfl, rfl, trivial⟩ (ih I2 J2 (fun c hc => ha2 c (by rw [Nat.pow_succ] at hc; omega)) (fun c => ?_) (fun a q => (hf2 a q).trans (hf a q)))
        rw [s2, show L - (j + 1) = L - 1 - j by omega]
        refine @mir_fix (TR p D h) (TI p D h) _ (@Fl.hm (TR p D h) (TI p D h) p (2 ^ h) hFl (2 ^ (L - 1 - j))) _ (fun c => ?_) c
        have w := hv c
        rw [eL, ← p_sq, @pw_mul (TR p D h) (TI p D h)] at w
        exact w
  have e0 : plY p D h L X 0 = @prd (TR p D h) (TI p D h) [X] := by
    show @prd (TR p D h) (TI p D h) [cj p D h X 0] = _
    rw [cj_0]
  refine Rf.go 100 [20] ?_
  refine And.intro fc ⟨13, p0, ?_⟩
  refine And.intro (pa _ 0 rfl (by decide)).1 ⟨14, (pa _ 0 rfl (by decide)).2, ?_⟩
  refine Wr.go (e_neg (d := d) (X := X) hT hI hx (hF2 (by omega)) hX) (by omega) (fun J2 => ?_)
  refine And.intro fc ⟨13, p0, ?_⟩
  refine And.intro (pa _ 1 rfl (by decide)).1 ⟨15, (pa _ 1 rfl (by decide)).2, ?_⟩
  refine Wr.go (e_set1 (d := d) hT (hI.keep (rwE_ne (by omega)) (rwE_ne (by omega))) (by omega) (hF2 (by omega))) (by omega) (fun J3 => ?_)
  refine (t_levelOf (d := d) hT.1 hx).up (by omega) ?_
  rintro r M1 ⟨hr, rfl⟩
  rw [rwE_ne (by omega), rwE_ne (by omega), hLv] at hr
  subst hr
  refine Rf.weak [(5, .int (nI (L - 0))), (4, .int (nI (2 ^ 0))), (0, .ref 12), (1, .ref T), (3, .int (nI i))] ⟨rfl, rfl, rfl, rfl, rfl, trivial⟩ (key 0 (Nat.zero_le _) _ J3 (fun c hc => ?_) (fun c => ?_) (fun a q => by rw [rwE_ne (by omega), rwE_ne (by omega)]))
  · rw [e0]
    have hc : c ≤ 1 := hc
    rcases (show c = 0 ∨ c = 1 by omega) with rfl | rfl
    · have e : @prd (TR p D h) (TI p D h) [X] 0 = (TI p D h).neg X := by
        letI I9 := TI p D h
        show (0 : TR p D h) - 1 * X = -X
        grind
      rw [e]
      exact Re_rwE.keep (rwE_ne (by omega))
    · have e : @prd (TR p D h) (TI p D h) [X] 1 = ((TI p D h).ofNat 1).ofNat := by
        letI I9 := TI p D h
        show (1 : TR p D h) - 0 * X = 1
        grind
      rw [e]
      exact Re_rwE
  · rw [e0, Nat.sub_zero]
    have w := @Hm.pm (TR p D h) (TI p D h) _ (@Fl.hm (TR p D h) (TI p D h) p (2 ^ h) hFl (2 ^ L)) [X] c
    have fx9 : @pw (TR p D h) (TI p D h) X (p ^ 2 ^ L) = X := (conj_iff hpr hodd hTk hLh hL (2 ^ L)).mpr ⟨1, by omega⟩
    refine w.trans ?_
    show @prd (TR p D h) (TI p D h) [@pw (TR p D h) (TI p D h) X (p ^ 2 ^ L)] c = _
    rw [fx9]
theorem c_coefficient [NeZero p] {d' : Nat} {post : Option Value → Me → Prop} (hK : Kst K) (hM : CtM M o o2) (hF : FcM M) (hR : CR I o p D h n kd tl V g) (hd : d + 5 ≤ d') (hp : ∀ I1 J1, QfC I I1 o → post (some (.int (cfA p D h n kd V s t))) (St M I1 J1)) : Ok K d' 85 [.ref 8, .int s, .int t] (St M I J) post := by
  refine Ok.up (d := d + 5) (post := post) ?_ hd (fun _ _ h => h)
  obtain ⟨hC, ⟨r0, r1, r2, r3⟩, hS, hH, hH2, hoo⟩ := hM
  obtain ⟨⟨s1, s2, s3⟩, hTw, hv, hg⟩ := hR
  have hkd : ∀ s, s < n → I (9 + 1) s = nI (kd s) ∧ kd s < 14 := fun s hs => (s3 s hs).1
  have no : ¬ (isT n kd s 0 ∧ ¬ t < 0) → cfA p D h n kd V s t = Int32.ofInt (-1) := fun q => if_neg q
  have hp0 := hp I J (fun _ _ _ _ _ => rfl)
  refine Ok.go (e := me_85) rfl rfl (Nat.le_of_ble_eq_true rfl) hC ?_
  refine Rf.go 100 [] ?_
  refine And.intro hC ⟨9, r0, ?_⟩
  refine s_sortAny (d := d) hK hS s1 s2 hkd (by omega) (fun a ha hat => ?_) (fun hna => ?_)
  · have ha4 := srt_lt (kd a) (s3 a ha).1.2
    subst hat
    refine And.intro (fun q => ?_) (fun q => ?_)
    · have q : ¬ nI (srt (kd a)) = 0 := of_decide_eq_true q
      rw [no (fun w => q (by rw [(isT_n ha s2).mp w.1]; rfl))] at hp0
      exact ⟨rfl, hp0⟩
    have q : nI (srt (kd a)) = 0 := Classical.not_not.mp (fun w => q (decide_eq_true w))
    have qa : srt (kd a) = 0 := (nI_eq (b := 0) (by omega) (by decide)).mp q
    have hva := hv a ha 0 (by show 0 < szs (srt (kd a)); rw [qa]; decide)
    have hRe : Re I p D h (o + 26 + 3 * a + 0) (oV p D h (V a 0)) := hva.1.re hva.2
    obtain ⟨hL, hLh⟩ := lvN_Lev (D := D) hva.2 hTw.1.2.2.1 hTw.1.2.2.2.1.2
    obtain ⟨p1, p8⟩ := p2L (lvN_le (V a 0))
    refine And.intro (fun w => ?_) (fun w => ?_)
    · have w : ¬ t < 0 := fun v => absurd (of_decide_eq_true w) (Int32.not_le.mpr v)
      have e : cfA p D h n kd V (nI a) t = _ := if_pos ⟨⟨a, ha, rfl, qa⟩, w⟩
      obtain ⟨i, hi, rfl⟩ := nI_of w
      rw [clp_n (show a < 2 ^ 31 by omega), clp_n hi] at e
      rw [e] at hp hp0
      refine And.intro hC ⟨o, r2, ?_⟩
      refine (h_row (d := d) (t := a) (i := 0) hH (by omega) (by omega) rfl rfl).up (by omega) ?_
      rintro r M1 ⟨rfl, rfl⟩
      refine And.intro hC ⟨o, r2, ?_⟩
      refine And.intro hH.c ⟨o + 1, hH.r0, ?_⟩
      refine (t_degreeOf (d := d) hH.tc (hH.rc (by omega))).up (by omega) ?_
      rintro r M1 ⟨hr, rfl⟩
      rw [lvN_re hva.1] at hr
      subst hr
      refine And.intro (fun c => ?_) (fun c => ?_)
      · have c : nI i ≤ nI (2 ^ lvN (V a 0)) := of_decide_eq_true c
        have c := (nI_leI hi (by omega)).mp c
        rw [if_neg (by omega)] at hp
        refine And.intro hC ⟨12, r1, ?_⟩
        refine And.intro hC ⟨o, r2, ?_⟩
        refine And.intro hH.c ⟨o + 1, hH.r0, ?_⟩
        exact f_coef (d := d) hK.1 hF hH.tw (by omega) hTw (hH.rc (by omega)) (by omega) rfl hRe (lvN_re hva.1) hL hLh c (by omega) (fun I1 J1 hf => ⟨rfl, hp I1 J1 (fun x h1 h2 h3 h4 => hf x (by omega))⟩)
      · have c : ¬ i ≤ 2 ^ lvN (V a 0) := fun v => c (decide_eq_true (nI_le v (by omega)))
        rw [if_pos (by omega)] at hp0
        exact ⟨rfl, hp0⟩
    · have w : t < 0 := Int32.not_le.mp (fun v => w (decide_eq_true v))
      rw [no (fun v => v.2 w)] at hp0
      exact ⟨rfl, hp0⟩
  · rw [no (fun w => isT_no hna w.1)] at hp0
    exact And.intro (fun _ => ⟨rfl, hp0⟩) (fun w => absurd (by decide) w)
end Qj
