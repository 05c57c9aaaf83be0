/-! thing, count -/
def lvN (v : Nat → Nat) : Nat := lvU (fun j => nI (v j)) 8
def tpU (f : Nat → Int32) : Nat → Nat
  | 0 => 0
  | n + 1 => if n = 0 ∨ f n = 0 then tpU f n else n
def mpT (j : Nat) : Nat := if j = 0 then 0 else if j = 1 then 1 else if j < 4 then 2 else 3
theorem lvU_c {f f' : Nat → Int32} : ∀ {n : Nat}, (∀ j, j < n → f j = f' j) → lvU f n = lvU f' n
  | 0, _ => rfl
  | n + 1, h => by
    show (if n = 0 ∨ f n = 0 then lvU f n else 32 - nlz n) = (if n = 0 ∨ f' n = 0 then lvU f' n else 32 - nlz n)
    rw [h n (by omega), lvU_c (fun j hj => h j (by omega))]
theorem mpT_n : ∀ n, n < 8 → 1 ≤ n → 32 - nlz n = mpT n := by decide
theorem lvU_tp (f : Nat → Int32) : ∀ n, n ≤ 8 → lvU f n = mpT (tpU f n)
  | 0, _ => rfl
  | n + 1, hn => by
    show (if n = 0 ∨ f n = 0 then lvU f n else 32 - nlz n) = mpT (if n = 0 ∨ f n = 0 then tpU f n else n)
    by_cases c : n = 0 ∨ f n = 0
    · rw [if_pos c, if_pos c]
      exact lvU_tp f n (by omega)
    · rw [if_neg c, if_neg c]
      exact mpT_n n (by omega) (by omega)
theorem tpU_lt (f : Nat → Int32) : ∀ n, n ≤ 8 → tpU f n ≤ 7
  | 0, _ => Nat.zero_le _
  | n + 1, hn => by
    show (if n = 0 ∨ f n = 0 then tpU f n else n) ≤ 7
    split
    · exact tpU_lt f n (by omega)
    · omega
theorem lvN_le (v : Nat → Nat) : lvN v ≤ 3 := lvU_le _ 8 (by omega)
def glv (W : Nat → Nat → Nat) : Nat → Nat
  | 0 => 0
  | k + 1 => if glv W k < lvN (W k) then lvN (W k) else glv W k
theorem glv_le (W : Nat → Nat → Nat) : ∀ k, glv W k ≤ 3
  | 0 => Nat.zero_le _
  | k + 1 => by
    show (if glv W k < lvN (W k) then lvN (W k) else glv W k) ≤ 3
    split
    · exact lvN_le _
    · exact glv_le W k
def prc (k g : Nat) : Nat := if 7 ≤ k ∧ k ≤ 11 then 1 else if g = 0 then 0 else if k = 12 then 3 else 2
theorem prc_le (k g : Nat) : prc k g ≤ 3 := by
  unfold prc
  split
  · decide
  · split
    · decide
    · split <;> decide
def spr (kd g : Nat → Nat) : Nat → Nat
  | 0 => 0
  | t + 1 => spr kd g t + prc (kd t) (g t)
theorem spr_le (kd g : Nat → Nat) : ∀ n, spr kd g n ≤ 3 * n
  | 0 => Nat.le_refl _
  | n + 1 => by
    have := spr_le kd g n
    have := prc_le (kd n) (g n)
    show spr kd g n + prc (kd n) (g n) ≤ 3 * (n + 1)
    omega
def hmn (kd : Nat → Nat) (c : Nat) : Nat → Nat
  | 0 => 0
  | t + 1 => hmn kd c t + (if srt (kd t) = c then 1 else 0)
def thB (k : Nat) (tl : Nat → Int32) (W : Nat → Nat → Nat) (g : Nat) : Nat → Int32
  | 0 => nI (srt k)
  | 1 => nI k
  | 2 => tl 0
  | 3 => tl 1
  | 4 => tl 2
  | 5 => nI (prc k g)
  | 6 => nI g
  | _ => nI (glv W (szs (srt k)))
noncomputable def thA (n : Nat) (kd : Nat → Nat) (tl : Nat → Nat → Int32) (V : Nat → Nat → Nat → Nat) (g : Nat → Nat) (t w : Int32) : Int32 := @ite _ (inL t n) (Classical.propDecidable _) (@ite _ (inL w 8) (Classical.propDecidable _) (thB (kd (clp t)) (tl (clp t)) (V (clp t)) (g (clp t)) (clp w)) (Int32.ofInt (-7))) (Int32.ofInt (-1))
def cnB (p h n : Nat) (kd g : Nat → Nat) : Nat → Int32
  | 0 => nI n
  | 1 => nI h
  | 2 => nI p
  | 3 => nI (spr kd g n)
  | c + 4 => nI (hmn kd c n)
noncomputable def cnA (p h n : Nat) (kd g : Nat → Nat) (w : Int32) : Int32 := @ite _ (inL w 8) (Classical.propDecidable _) (cnB p h n kd g (clp w)) (Int32.ofInt (-1))
theorem maxN {a b : Nat} (ha : a < 2 ^ 31) (hb : b < 2 ^ 31) : (if nI a < nI b then nI b else nI a) = nI (if a < b then b else a) := by
  by_cases c : a < b
  · rw [if_pos c, if_pos (nI_lt c hb)]
  · rw [if_neg c, if_neg (fun q => c ((nI_ltI ha hb).mp q))]
theorem in8 {x : Int32} (h : ¬ (x.toInt < 0 ∨ 7 < x.toInt)) : inL x 8 := by
  rw [inL_iff (by decide), Int32.lt_iff_toInt_lt, Int32.lt_iff_toInt_lt]
  exact ⟨fun q => h (Or.inl q), by show x.toInt < 8; omega⟩
theorem in8n {c : Nat} (hc : c < 8) : ¬ ((nI c).toInt < 0 ∨ 7 < (nI c).toInt) := by
  revert hc; revert c; decide
section Qd
variable {K : Ka} {d o o2 m p h n : Nat} {M : Me} {I : Nat → Nat → Int32} {J : Nat → Nat → Int64} {D : Nat → Nat → Nat} {kd : Nat → Nat} {tl : Nat → Nat → Int32} {V : Nat → Nat → Nat → Nat} {g : Nat → Nat} {s t : Int32}
theorem lvN_re {a : Nat} {v : Nat → Nat} (hv : Rv I a v) : lvU (I a) 8 = lvN v := lvU_c (fun j hj => hv j hj)
theorem h_gl {t k : Nat} {W : Nat → Nat → Nat} (hM : HsM M o) (ht : t < 60) (hk : k ≤ 3) (hv : ∀ i, i < k → Rv I (o + 26 + 3 * t + i) (W i)) : Ok K (d + 3) 9 [.ref o, .int (nI t), .int (nI k)] (St M I J) (fun r M1 => r = some (.int (nI (glv W k))) ∧ M1 = St M I J) := by
  refine Ok.go (e := me_9) rfl rfl (Nat.le_of_ble_eq_true rfl) hM.c ?_
  refine Rf.go 100 [4] ?_
  refine Rf.weak [(4, .int (nI 0)), (3, .int (nI (glv W 0))), (0, .ref o), (1, .int (nI t)), (2, .int (nI k))] ⟨rfl, rfl, rfl, rfl, rfl, trivial⟩ ?_
  have key : ∀ i, i ≤ k → Rf K (d + 2) mc_9 4 (lk [(4, .int (nI i)), (3, .int (nI (glv W i))), (0, .ref o), (1, .int (nI t)), (2, .int (nI k))]) [] (St M I J) (fun r M1 => rok me_9.2.2.2.1 r = true ∧ r = some (.int (nI (glv W k))) ∧ M1 = St M I J) := by
    refine for_up k ?_ (fun i hi ih => ?_)
    · refine Rf.go 100 [4] ?_
      exact And.intro (fun _ => ⟨rfl, rfl, rfl⟩) (fun q => absurd ((geN (by omega) (by omega)).mpr (Nat.le_refl k)) q)
    · refine Rf.go 100 [4] ?_
      refine And.intro (fun q => absurd ((geN (by omega) (by omega)).mp q) (by omega)) (fun _ => ?_)
      refine And.intro hM.c ⟨o + 1, hM.r0, ?_⟩
      refine (h_row (d := d) (t := t) (i := i) hM (by omega) (by omega) rfl rfl).up (by omega) ?_
      rintro r M1 ⟨rfl, rfl⟩
      refine (t_levelOf (d := d) hM.tc (hM.rc (by omega))).up (by omega) ?_
      rintro r M1 ⟨hr, rfl⟩
      rw [lvN_re (hv i hi)] at hr
      subst hr
      refine And.intro (by decide) ?_
      have e := maxN (a := glv W i) (b := lvN (W i)) (by have := glv_le W i; omega) (by have := lvN_le (W i); omega)
      exact Rf.weak [(4, .int (nI (i + 1))), (3, .int (nI (glv W (i + 1)))), (0, .ref o), (1, .int (nI t)), (2, .int (nI k))] ⟨inc1 i, congrArg (fun z => some (Value.int z)) e, rfl, rfl, rfl, trivial⟩ ih
  exact key 0 (Nat.zero_le k)
theorem c_price [NeZero p] {t d' : Nat} {post : Option Value → Me → Prop} (hM : CtM M o o2) (hR : CR I o p D h n kd tl V g) (hg1 : g t ≤ 1) (ht : t < n) (hd : d + 2 ≤ d') (hp : post (some (.int (nI (prc (kd t) (g t))))) (St M I J)) : Ok K d' 90 [.ref 8, .int (nI t)] (St M I J) post := by
  refine Ok.up (d := d + 2) (post := post) ?_ hd (fun _ _ h => h)
  obtain ⟨hC, ⟨r0, r1, r2, r3⟩, hS, hH, hH2, hoo⟩ := hM
  obtain ⟨⟨s1, s2, s3⟩, hTw, hv, hg⟩ := hR
  obtain ⟨k1, k2⟩ := (s3 t ht).1
  refine Ok.go (e := me_90) rfl rfl (Nat.le_of_ble_eq_true rfl) hC ?_
  have tail : ¬ (7 ≤ kd t ∧ kd t ≤ 11) → Rf K (d + 1) mc_90 13 (lk [(0, .ref 8), (1, .int (nI t)), (2, .int (nI (kd t)))]) [] (St M I J) (fun r M1 => rok me_90.2.2.2.1 r = true ∧ post r M1) := by
    intro hn
    have e : prc (kd t) (g t) = _ := if_neg hn
    rw [e] at hp
    refine Rf.go 100 [] ?_
    refine And.intro hC ⟨o, r2, ?_⟩
    refine (h_growthBy (d := d) hH (by omega) rfl).up (by omega) ?_
    rintro r M1 ⟨hr, rfl⟩
    rw [hg t ht] at hr
    subst hr
    refine And.intro (fun q => ?_) (fun q => ?_)
    · have q : ¬ nI (g t) = 0 := of_decide_eq_true q
      rw [if_neg (fun w => q (by rw [w]; rfl))] at hp
      refine And.intro (fun q => ?_) (fun q => ?_)
      · have q : ¬ nI (kd t) = Int32.ofInt 12 := of_decide_eq_true q
        rw [if_neg (fun w => q (by rw [w]; rfl))] at hp
        exact ⟨rfl, hp⟩
      · have q : nI (kd t) = Int32.ofInt 12 := Classical.not_not.mp (fun w => q (decide_eq_true w))
        rw [if_pos ((nI_eq (b := 12) (by omega) (by decide)).mp q)] at hp
        exact ⟨rfl, hp⟩
    · have q : nI (g t) = 0 := Classical.not_not.mp (fun w => q (decide_eq_true w))
      rw [if_pos ((nI_eq (b := 0) (by omega) (by decide)).mp q)] at hp
      exact ⟨rfl, hp⟩
  refine Rf.go 100 [13] ?_
  refine And.intro hC ⟨9, r0, ?_⟩
  refine (s_kindOf (d := d) hS (show t < 60 by omega) rfl).up (by omega) ?_
  rintro r M1 ⟨hr, rfl⟩
  rw [k1] at hr
  subst hr
  refine And.intro (fun q => ?_) (fun q => ?_)
  · have q : nI (kd t) < Int32.ofInt 7 := of_decide_eq_true q
    have q := (nI_ltI (b := 7) (by omega) (by decide)).mp q
    exact Rf.weak [(0, .ref 8), (1, .int (nI t)), (2, .int (nI (kd t)))] ⟨rfl, rfl, rfl, trivial⟩ (tail (by omega))
  · have q : ¬ kd t < 7 := fun w => q (decide_eq_true (nI_lt (b := 7) w (by decide)))
    refine And.intro (fun w => ?_) (fun w => ?_)
    · have w : Int32.ofInt 11 < nI (kd t) := of_decide_eq_true w
      have w := (nI_ltI (a := 11) (by omega) (by omega)).mp w
      exact Rf.weak [(0, .ref 8), (1, .int (nI t)), (2, .int (nI (kd t)))] ⟨rfl, rfl, rfl, trivial⟩ (tail (by omega))
    · have w : ¬ 11 < kd t := fun v => w (decide_eq_true (nI_lt (a := 11) v (by omega)))
      rw [show prc (kd t) (g t) = 1 from if_pos (by omega)] at hp
      exact ⟨rfl, hp⟩
theorem c_thing [NeZero p] {d' : Nat} {post : Option Value → Me → Prop} (hK : Kst K) (hM : CtM M o o2) (hR : CR I o p D h n kd tl V g) (hA : AS p D h n kd tl V g) (hd : d + 4 ≤ d') (hp : post (some (.int (thA n kd tl V g s t))) (St M I J)) : Ok K d' 77 [.ref 8, .int s, .int t] (St M I J) post := by
  refine Ok.up (d := d + 4) (post := post) ?_ hd (fun _ _ h => h)
  have hM' := hM
  have hR' := hR
  obtain ⟨hC, ⟨r0, r1, r2, r3⟩, hS, hH, hH2, hoo⟩ := hM
  obtain ⟨⟨s1, s2, s3⟩, hTw, hv, hg⟩ := hR
  refine Ok.go (e := me_77) rfl rfl (Nat.le_of_ble_eq_true rfl) hC ?_
  refine Rf.go 100 [] ?_
  refine And.intro hC ⟨9, r0, ?_⟩
  refine (s_has (d := d) hS s1).up (by omega) ?_
  rintro r M1 ⟨rfl, rfl⟩
  cases hh : hsb n s with
  | false =>
    rw [show thA n kd tl V g s t = Int32.ofInt (-1) from if_neg (fun w => by rw [(hsb_iff s2).mpr w] at hh; cases hh)] at hp
    exact And.intro (fun w => absurd w (by decide)) (fun _ => ⟨rfl, hp⟩)
  | true =>
    obtain ⟨a, ha, rfl⟩ := hsb_t hh s2
    have ca : clp (nI a) = a := clp_n (by omega)
    obtain ⟨⟨k1, k2⟩, k3⟩ := s3 a ha
    have hz := szs_le (srt (kd a))
    refine And.intro (fun _ => ?_) (fun w => absurd (by decide) w)
    by_cases hw : inL t 8
    · have e : thA n kd tl V g (nI a) t = _ := (if_pos ⟨a, ha, rfl⟩).trans (if_pos hw)
      rw [ca] at e
      rw [e] at hp
      obtain ⟨c, hc, rfl⟩ := hw
      refine And.intro (fun q => absurd q (in8n hc)) (fun _ => ?_)
      have told : ∀ i, i < 3 → (Int32.ofInt (i + 2 : Nat) - Int32.ofInt 2 = nI i) := by decide
      rcases (show c = 0 ∨ c = 1 ∨ c = 2 ∨ c = 3 ∨ c = 4 ∨ c = 5 ∨ c = 6 ∨ c = 7 by omega) with rfl | rfl | rfl | rfl | rfl | rfl | rfl | rfl
      · refine ⟨_, rfl, ?_⟩
        refine And.intro hC ⟨9, r0, ?_⟩
        refine (s_sortOf (d := d) hK hS s1 s2 ha k1 k2 rfl).up (by omega) ?_
        rintro r M1 ⟨rfl, rfl⟩
        exact ⟨rfl, hp⟩
      · refine ⟨_, rfl, ?_⟩
        refine And.intro hC ⟨9, r0, ?_⟩
        refine (s_kindOf (d := d) hS (show a < 60 by omega) rfl).up (by omega) ?_
        rintro r M1 ⟨hr, rfl⟩
        rw [k1] at hr
        subst hr
        exact ⟨rfl, hp⟩
      · refine ⟨_, rfl, ?_⟩
        refine And.intro hC ⟨9, r0, ?_⟩
        refine (s_toldOf (d := d) (i := 0) hS (show a < 60 by omega) (by decide) rfl (by decide)).up (by omega) ?_
        rintro r M1 ⟨hr, rfl⟩
        rw [k3 0 (by decide)] at hr
        subst hr
        exact ⟨rfl, hp⟩
      · refine ⟨_, rfl, ?_⟩
        refine And.intro hC ⟨9, r0, ?_⟩
        refine (s_toldOf (d := d) (i := 1) hS (show a < 60 by omega) (by decide) rfl (by decide)).up (by omega) ?_
        rintro r M1 ⟨hr, rfl⟩
        rw [k3 1 (by decide)] at hr
        subst hr
        exact ⟨rfl, hp⟩
      · refine ⟨_, rfl, ?_⟩
        refine And.intro hC ⟨9, r0, ?_⟩
        refine (s_toldOf (d := d) (i := 2) hS (show a < 60 by omega) (by decide) rfl (by decide)).up (by omega) ?_
        rintro r M1 ⟨hr, rfl⟩
        rw [k3 2 (by decide)] at hr
        subst hr
        exact ⟨rfl, hp⟩
      · refine ⟨_, rfl, ?_⟩
        exact c_price (d := d) hM' hR' (hA.2.2.1 a ha) ha (by omega) ⟨rfl, hp⟩
      · refine ⟨_, rfl, ?_⟩
        refine And.intro hC ⟨o, r2, ?_⟩
        refine (h_growthBy (d := d) hH (show a < 60 by omega) rfl).up (by omega) ?_
        rintro r M1 ⟨hr, rfl⟩
        rw [hg a ha] at hr
        subst hr
        exact ⟨rfl, hp⟩
      · refine ⟨_, rfl, ?_⟩
        refine And.intro hC ⟨o, r2, ?_⟩
        refine And.intro hC ⟨9, r0, ?_⟩
        refine (s_rowsOf (d := d) hK hS s1 s2 ha k1 k2 rfl).up (by omega) ?_
        rintro r M1 ⟨rfl, rfl⟩
        refine (h_gl (d := d) (W := V a) hH (show a < 60 by omega) hz (fun i hi => (hv a ha i hi).1)).up (by omega) ?_
        rintro r M1 ⟨rfl, rfl⟩
        exact ⟨rfl, hp⟩
    · rw [show thA n kd tl V g (nI a) t = Int32.ofInt (-7) from (if_pos ⟨a, ha, rfl⟩).trans (if_neg hw)] at hp
      exact And.intro (fun _ => ⟨rfl, hp⟩) (fun q => absurd (in8 q) hw)
end Qd
