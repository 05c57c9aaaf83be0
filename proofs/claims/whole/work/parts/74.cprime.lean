/-! CompassTowers.prime -/
/-- the steps made anew over q: bases, height, rows, growths after t of them -/
noncomputable def rmS (q : Nat) [NeZero q] (kd : Nat → Nat) (tl : Nat → Nat → Int32) : Nat → (Nat → Nat → Nat) × Nat × (Nat → Nat → Nat → Nat) × (Nat → Nat)
  | 0 => (fun _ _ => 0, 0, fun _ _ _ => 0, fun _ => 0)
  | t + 1 => ((stF q (rmS q kd tl t).1 (rmS q kd tl t).2.1 (rmS q kd tl t).2.2.1 kd (kd t) (tl t 0) (tl t 1) (tl t 2)).2.1, (stF q (rmS q kd tl t).1 (rmS q kd tl t).2.1 (rmS q kd tl t).2.2.1 kd (kd t) (tl t 0) (tl t 1) (tl t 2)).2.2.1, ufn (rmS q kd tl t).2.2.1 t (stF q (rmS q kd tl t).1 (rmS q kd tl t).2.1 (rmS q kd tl t).2.2.1 kd (kd t) (tl t 0) (tl t 1) (tl t 2)).2.2.2, ufn (rmS q kd tl t).2.2.2 t ((stF q (rmS q kd tl t).1 (rmS q kd tl t).2.1 (rmS q kd tl t).2.2.1 kd (kd t) (tl t 0) (tl t 1) (tl t 2)).2.2.1 - (rmS q kd tl t).2.1))
/-- what refuses step t, made anew -/
noncomputable def rmC (q : Nat) [NeZero q] (kd : Nat → Nat) (tl : Nat → Nat → Int32) (t : Nat) : Int32 := (stF q (rmS q kd tl t).1 (rmS q kd tl t).2.1 (rmS q kd tl t).2.2.1 kd (kd t) (tl t 0) (tl t 1) (tl t 2)).1
def swp (M : Me) (o o2 : Nat) : Me := wR M (u2 (u2 (mR M) 8 2 (some o2)) 8 3 (some o))
section Cp
variable {K : Ka} {d o o2 p h n k : Nat} {M : Me} {I : Nat → Nat → Int32} {J : Nat → Nat → Int64} {D : Nat → Nat → Nat} {kd : Nat → Nat} {tl : Nat → Nat → Int32} {V : Nat → Nat → Nat → Nat} {g : Nat → Nat} {x : Int32}
theorem AS.up2 [NeZero p] (hp : Pr p) (hodd : p % 2 = 1) (h3 : 3 ≤ p) (hD : tOk p D h) (hk : kd n < 14) (hA : AS p D h n kd tl V g) (hT : Told kd n (kd n) (tl n 0) (tl n 1) (tl n 2)) (h0 : (stF p D h V kd (kd n) (tl n 0) (tl n 1) (tl n 2)).1 = Int32.ofInt 0) : AS p (stF p D h V kd (kd n) (tl n 0) (tl n 1) (tl n 2)).2.1 (stF p D h V kd (kd n) (tl n 0) (tl n 1) (tl n 2)).2.2.1 (n + 1) kd tl (ufn V n (stF p D h V kd (kd n) (tl n 0) (tl n 1) (tl n 2)).2.2.2) (ufn g n ((stF p D h V kd (kd n) (tl n 0) (tl n 1) (tl n 2)).2.2.1 - h)) := by
  obtain ⟨a1, a2, a3, a4, a5, a6⟩ := hA
  have hR : RzOk p D h (szs (srt (kd n))) (stF p D h V kd (kd n) (tl n 0) (tl n 1) (tl n 2)) := mkF_ok hT.2.2.2
  have hln : srt (kd n) = 2 → LnOk ((stF p D h V kd (kd n) (tl n 0) (tl n 1) (tl n 2)).2.2.2 0) ((stF p D h V kd (kd n) (tl n 0) (tl n 1) (tl n 2)).2.2.2 1) := fun hs => mkF_ln (V := V) (z := tl n 0) hp hodd h3 hD hT.2.2.2 a2 hs h0
  generalize stF p D h V kd (kd n) (tl n 0) (tl n 1) (tl n 2) = R at hR hln
  have eg : ∀ t, t < n → g t = ufn g n (R.2.2.1 - h) t := fun t ht => (ufn_n (by omega)).symm
  have hh : hsm (ufn g n (R.2.2.1 - h)) n = h := by rw [← hsm_c eg]; exact a4.symm
  have hh2 : h ≤ R.2.2.1 ∧ R.2.2.1 - h ≤ 1 := by
    rcases hR.2.2 with q | q
    · omega
    · omega
  have hh1 : hsm (ufn g n (R.2.2.1 - h)) (n + 1) = R.2.2.1 := by
    show hsm (ufn g n (R.2.2.1 - h)) n + ufn g n (R.2.2.1 - h) n = _
    rw [hh, ufn_e]
    omega
  refine ⟨fun t ht => ?_, fun t ht => ?_, fun t ht => ?_, hh1.symm, fun t ht i => ?_, fun i hi => ?_⟩
  · by_cases e : t = n
    · rw [e]
      exact ⟨hk, hT⟩
    · exact a1 t (by omega)
  · by_cases e : t = n
    · subst e
      rw [ufn_e]
      exact hln
    · rw [ufn_n e]
      exact a2 t (by omega)
  · by_cases e : t = n
    · subst e
      rw [ufn_e]
      exact hh2.2
    · rw [ufn_n e]
      exact a3 t (by omega)
  · by_cases e : t = n
    · subst e
      rw [ufn_e, hh1]
      exact hR.1 i
    · rw [ufn_n e, ← hsm_c (g := g) (fun s hs => eg s (by omega))]
      exact a5 t (by omega) i
  · rcases hR.2.2 with q | ⟨-, -, q2, v, hv, q3⟩
    · rw [q.2]
      exact a6 i (by omega)
    · rw [q3]
      by_cases e : i = h
      · rw [e, gD_eq]
        exact hv
      · rw [gD_lt (by omega)]
        exact a6 i (by omega)
theorem TwA.tb0 [NeZero p] {T : Nat} (hA : TwA I T p h D) : Tb0 I T := fun i j hi hj hc => by
  have := hA.1.2.2.2.2 i j hi hj (Or.inl hc) 0 (by rw [hc]; decide)
  have this : I (T + 5) ((i * 8 + j) * 4) = nI (uP p D i j 0) := this
  rw [this]
  unfold uP
  rw [if_pos hc]
  rfl
theorem AS.zero [NeZero p] : AS p (rmS p kd tl 0).1 (rmS p kd tl 0).2.1 0 kd tl (rmS p kd tl 0).2.2.1 (rmS p kd tl 0).2.2.2 := ⟨fun t ht => absurd ht (Nat.not_lt_zero t), fun t ht => absurd ht (Nat.not_lt_zero t), fun t ht => absurd ht (Nat.not_lt_zero t), rfl, fun t ht => absurd ht (Nat.not_lt_zero t), fun i hi => absurd hi (Nat.not_lt_zero i)⟩
theorem CtM.swap (hM : CtM M o o2) : CtM (swp M o o2) o2 o := by
  obtain ⟨hC, ⟨r0, r1, r2, r3⟩, hS, hH, hH2, hoo⟩ := hM
  rcases hoo with ⟨rfl, rfl⟩ | ⟨rfl, rfl⟩
  · exact ⟨hC, ⟨r0, r1, rfl, rfl⟩, hS, hH2, hH, Or.inr ⟨rfl, rfl⟩⟩
  · exact ⟨hC, ⟨r0, r1, rfl, rfl⟩, hS, hH2, hH, Or.inl ⟨rfl, rfl⟩⟩
set_option maxHeartbeats 4000000 in
theorem c_prime {rm : Nat} {d' : Nat} {post : Option Value → Me → Prop} [NeZero p] (hK : Kst K) (hM : CtM M o o2) (hR : CR I o p D h n kd tl V g) (hA : AS p D h n kd tl V g) (hT2 : Tb0 I (o2 + 1)) (hrm : I 8 4 = nI rm) (hrm2 : rm ≤ 12) (hd : d + 13 ≤ d')
    (cb : ¬ PrO x → post (some (.int (Int32.ofInt (-1)))) (St M I J))
    (cf : PrO x → rm = 12 → post (some (.int (Int32.ofInt (-6)))) (St M I J))
    (cr : ∀ (q : Nat) [NeZero q], 3 ≤ q → q ≤ 32749 → x = nI q → q % 2 = 1 → Pr q → rm < 12 → ∀ t, t < n → (∀ s, s < t → rmC q kd tl s = Int32.ofInt 0) → ¬ rmC q kd tl t = Int32.ofInt 0 → ∀ I1 J1, CR I1 o p D h n kd tl V g → Tb0 I1 (o2 + 1) → I1 8 4 = nI (rm + 1) → I1 8 5 = rmC q kd tl t → FrK I I1 → post (some (.int (Int32.ofInt (-20) - nI t))) (St M I1 J1))
    (cs : ∀ (q : Nat) [NeZero q], 3 ≤ q → q ≤ 32749 → x = nI q → q % 2 = 1 → Pr q → rm < 12 → (∀ s, s < n → rmC q kd tl s = Int32.ofInt 0) → ∀ I1 J1, CR I1 o2 q (rmS q kd tl n).1 (rmS q kd tl n).2.1 n kd tl (rmS q kd tl n).2.2.1 (rmS q kd tl n).2.2.2 → AS q (rmS q kd tl n).1 (rmS q kd tl n).2.1 n kd tl (rmS q kd tl n).2.2.1 (rmS q kd tl n).2.2.2 → Tb0 I1 (o + 1) → I1 8 4 = nI (rm + 1) → I1 8 5 = I 8 5 → FrK I I1 → post (some (.int (nI n))) (St (swp M o o2) I1 J1)) : Ok K d' 73 [.ref 8, .int x] (St M I J) post := by
  refine Ok.up (d := d + 13) (post := post) ?_ hd (fun _ _ h => h)
  obtain ⟨hC, ⟨r0, r1, r2, r3⟩, hS, hH, hH2, hoo⟩ := hM
  obtain ⟨⟨s1, s2, s3⟩, hTw, hv, hg⟩ := hR
  refine Ok.go (e := me_73) rfl rfl (Nat.le_of_ble_eq_true rfl) hC ?_
  refine Rf.go 100 [17] ?_
  refine c_isPrime (d := d) (by omega) (fun q q3 qh hx ho hpr => ?_) (fun hno => ?_)
  · refine And.intro (fun _ => ?_) (fun w => absurd (by decide) w)
    refine And.intro hC ?_
    refine And.intro (fun w => ?_) (fun w => ?_)
    · have w : I 8 4 < Int32.ofInt 12 := of_decide_eq_true w
      rw [hrm] at w
      have hrl : rm < 12 := (nI_ltI (b := 12) (by omega) (by decide)).mp w
      haveI hq0 : NeZero q := ⟨by omega⟩
      have cr := cr q q3 qh hx ho hpr hrl
      have cs := cs q q3 qh hx ho hpr hrl
      refine And.intro rfl ?_
      refine And.intro hC ?_
      refine And.intro hC ?_
      have x4 : u2 I 8 4 (I 8 4 + Int32.ofInt 1) 8 4 = nI (rm + 1) := by rw [u2_at, if_pos rfl, hrm]; exact nI_1 rm
      have x5 : u2 I 8 4 (I 8 4 + Int32.ofInt 1) 8 5 = I 8 5 := by rw [u2_at, if_neg (by decide)]
      have xn : ∀ c, c ≠ 8 → u2 I 8 4 (I 8 4 + Int32.ofInt 1) c = I c := fun c hc => u2_ne hc
      show Rf K (d + 12) mc_73 17 _ [] (St M (u2 I 8 4 (I 8 4 + Int32.ofInt 1)) J) _
      generalize u2 I 8 4 (I 8 4 + Int32.ofInt 1) = I0 at x4 x5 xn
      refine Rf.go 100 [24] ?_
      refine And.intro hC ⟨o2, r3, ?_⟩
      refine And.intro hH2.c ⟨o2 + 1, hH2.r0, ?_⟩
      have hb : Tb0 I0 (o2 + 1) := fun i j hi hj hc => by rw [xn _ (by omega)]; exact hT2 i j hi hj hc
      have beg := e_begin (K := K) (d := d) (J := J) (I := I0) (p := q) hH2.tc hpr q3 qh ho hb
      rw [← hx] at beg
      refine beg.up (by omega) ?_
      rintro r M1 ⟨rfl, I1, rfl, f1, hTw1⟩
      -- the loop
      have loop : ∀ t, t ≤ n → ∀ (I2 : Nat → Nat → Int32) (J2 : Nat → Nat → Int64), (∀ c, (c < o2 + 1 ∨ o2 + 219 ≤ c) → I2 c = I0 c) → (∀ s, s < t → rmC q kd tl s = Int32.ofInt 0) → TwA I2 (o2 + 1) q (rmS q kd tl t).2.1 (rmS q kd tl t).1 → HV I2 o2 q (rmS q kd tl t).2.1 t (fun s => srt (kd s)) (rmS q kd tl t).2.2.1 → (∀ s, s < t → I2 (o2 + 209) s = nI ((rmS q kd tl t).2.2.2 s)) → AS q (rmS q kd tl t).1 (rmS q kd tl t).2.1 t kd tl (rmS q kd tl t).2.2.1 (rmS q kd tl t).2.2.2 → Rf K (d + 12) mc_73 24 (lk [(2, .int (nI t)), (0, .ref 8)]) [] (St M I2 J2) (fun r M1 => rok me_73.2.2.2.1 r = true ∧ post r M1) := by
        refine for_up n (fun I2 J2 f2 hz hW hV hG hAS => ?_) (fun t ht ih I2 J2 f2 hz hW hV hG hAS => ?_)
        · have y9 : I2 9 0 = nI n := by rw [f2 9 (by omega), xn 9 (by decide)]; exact s1
          have y8 : I2 8 = I0 8 := f2 8 (by omega)
          refine Rf.go 100 [] ?_
          refine And.intro hC ⟨9, r0, ?_⟩
          refine And.intro hS.1 ?_
          refine And.intro (fun _ => ?_) (fun w => absurd (by show decide (I2 9 0 ≤ nI n) = true; rw [y9]; exact decide_eq_true (Int32.le_refl _)) w)
          refine And.intro hC ⟨o, r2, ?_⟩
          refine And.intro hC ⟨o2, r3, ?_⟩
          refine And.intro hC ?_
          refine And.intro hC ?_
          refine And.intro hC ⟨9, r0, ?_⟩
          refine And.intro hS.1 ?_
          have hfin := cs hz I2 J2 ⟨⟨y9, s2, fun t ht => ?_⟩, hW, hV, hG⟩ hAS (fun i j hi hj hc => ?_) (by rw [y8]; exact x4) (by rw [y8]; exact x5) (fun c hc => (f2 c (by omega)).trans (xn c (by omega)))
          · rw [← y9] at hfin
            exact ⟨rfl, hfin⟩
          · rw [f2 10 (by omega), f2 11 (by omega), xn 10 (by decide), xn 11 (by decide)]
            exact s3 t ht
          · rw [f2 _ (by omega), xn _ (by omega)]
            exact hTw.tb0 i j hi hj hc
        · have y9 : I2 9 0 = nI n := by rw [f2 9 (by omega), xn 9 (by decide)]; exact s1
          have y8 : I2 8 = I0 8 := f2 8 (by omega)
          have y10 : I2 10 = I 10 := (f2 10 (by omega)).trans (xn 10 (by decide))
          have y11 : I2 11 = I 11 := (f2 11 (by omega)).trans (xn 11 (by decide))
          obtain ⟨⟨kt1, kt2⟩, tt⟩ := s3 t ht
          have hT := (hA.1 t ht).2
          refine Rf.go 100 [24] ?_
          refine And.intro hC ⟨9, r0, ?_⟩
          refine And.intro hS.1 ?_
          refine And.intro (fun w => absurd (of_decide_eq_true w) (by show ¬ I2 9 0 ≤ nI t; rw [y9]; exact nI_ge ht (by omega))) (fun _ => ?_)
          refine And.intro hC ⟨o2, r3, ?_⟩
          refine And.intro hC ⟨9, r0, ?_⟩
          refine make_ok (d := d) (S := 9) (t := t) (n := n) (k := kd t) (kd := kd) (V := (rmS q kd tl t).2.2.1) (a := clp (tl t 0)) (b := clp (tl t 1)) (c := clp (tl t 2)) hK hH2 hW hS (by omega) y9 s2 (by omega) (by omega) (fun s hs => by show I2 10 s = _ ∧ _; rw [y10]; exact (s3 s hs).1) (by show I2 10 t = _; rw [y10]; exact kt1) kt2 hV (by show I2 11 _ = _; rw [y11]; exact tt 0 (by decide)) (by show I2 11 _ = _; rw [y11]; exact tt 1 (by decide)) (by show I2 11 _ = _; rw [y11]; exact tt 2 (by decide)) hT.1 hT.2.1 hT.2.2.1 hT.2.2.2 rfl (by omega) (fun I3 J3 ho3 hg3 hf3 => ?_)
          have ho3 : OutC I3 o2 q t (szs (srt (kd t))) (stF q (rmS q kd tl t).1 (rmS q kd tl t).2.1 (rmS q kd tl t).2.2.1 kd (kd t) (tl t 0) (tl t 1) (tl t 2)) := ho3
          have hg3 : I3 (o2 + 209) = (fun j => if j = t then nI ((stF q (rmS q kd tl t).1 (rmS q kd tl t).2.1 (rmS q kd tl t).2.2.1 kd (kd t) (tl t 0) (tl t 1) (tl t 2)).2.2.1 - (rmS q kd tl t).2.1) else I2 (o2 + 209) j) := hg3
          have hRz : RzOk q (rmS q kd tl t).1 (rmS q kd tl t).2.1 (szs (srt (kd t))) (stF q (rmS q kd tl t).1 (rmS q kd tl t).2.1 (rmS q kd tl t).2.2.1 kd (kd t) (tl t 0) (tl t 1) (tl t 2)) := mkF_ok hT.2.2.2
          have f3 : ∀ c, (c < o2 + 1 ∨ o2 + 219 ≤ c) → I3 c = I0 c := fun c hc => (hf3 c (by omega) (by omega) (by omega)).trans (f2 c hc)
          have hv3 : HV I3 o2 q (rmS q kd tl t).2.1 t (fun s => srt (kd s)) (rmS q kd tl t).2.2.1 := hV.keep (fun c h1 h2 => hf3 c (by omega) (by omega) (by omega))
          have hle : (rmS q kd tl t).2.1 ≤ (rmS q kd tl (t + 1)).2.1 := by
            show (rmS q kd tl t).2.1 ≤ (stF q (rmS q kd tl t).1 (rmS q kd tl t).2.1 (rmS q kd tl t).2.2.1 kd (kd t) (tl t 0) (tl t 1) (tl t 2)).2.2.1
            rcases hRz.2.2 with v | v <;> omega
          show (cmpI .eq (rmC q kd tl t) 0 = true → _) ∧ (¬ cmpI .eq (rmC q kd tl t) 0 = true → _)
          refine And.intro (fun w => ?_) (fun w => ?_)
          · have h0 : rmC q kd tl t = Int32.ofInt 0 := of_decide_eq_true w
            refine Rf.weak [(2, .int (nI (t + 1))), (0, .ref 8)] ⟨inc1 t, rfl, trivial⟩ (ih I3 J3 f3 (fun s hs => ?_) ho3.1 (fun s hs i hi => ?_) (fun s hs => ?_) (AS.up2 hpr ho q3 hW.2.2.2.1 kt2 hAS hT h0))
            · by_cases e : s = t
              · rw [e]; exact h0
              · exact hz s (by omega)
            · show Rv I3 _ (ufn (rmS q kd tl t).2.2.1 t _ s i) ∧ vOk q _ (ufn (rmS q kd tl t).2.2.1 t _ s i)
              by_cases e : s = t
              · subst e
                rw [ufn_e]
                exact ⟨fun j hj => ho3.2 h0 i hi j hj, hRz.1 i⟩
              · rw [ufn_n e]
                have q2 := hv3 s (by omega) i hi
                exact ⟨q2.1, q2.2.up hle⟩
            · show I3 (o2 + 209) s = nI (ufn (rmS q kd tl t).2.2.2 t _ s)
              rw [hg3]
              show (if s = t then _ else I2 (o2 + 209) s) = _
              by_cases e : s = t
              · rw [if_pos e, e, ufn_e]
              · rw [if_neg e, ufn_n e]
                exact hG s (by omega)
          · have h0 : ¬ rmC q kd tl t = Int32.ofInt 0 := fun v => w (decide_eq_true v)
            refine And.intro hC ?_
            have un : ∀ c, c ≠ 8 → u2 I3 8 5 (rmC q kd tl t) c = I3 c := fun c hc => u2_ne hc
            have z8 : I3 8 = I0 8 := f3 8 (by omega)
            have fo : ∀ c, c ≠ 8 → (c < o2 + 1 ∨ o2 + 219 ≤ c) → u2 I3 8 5 (rmC q kd tl t) c = I c := fun c h1 h2 => (un c h1).trans ((f3 c h2).trans (xn c h1))
            refine ⟨rfl, cr t ht hz h0 (u2 I3 8 5 (rmC q kd tl t)) J3 ⟨⟨?_, s2, fun t ht => ?_⟩, hTw.keep (fun c h1 h2 => fo c (by omega) (by omega)), hv.keep (fun c h1 h2 => fo c (by omega) (by omega)), fun t ht => ?_⟩ (fun i j hi hj hc => ?_) ?_ ?_ (fun c hc => fo c (by omega) (by omega))⟩
            · rw [fo 9 (by decide) (by omega)]; exact s1
            · rw [fo 10 (by decide) (by omega), fo 11 (by decide) (by omega)]
              exact s3 t ht
            · rw [fo _ (by omega) (by omega)]
              exact hg t ht
            · rw [un _ (by omega)]
              exact ho3.1.tb0 i j hi hj hc
            · rw [u2_at, if_neg (by decide), z8]; exact x4
            · rw [u2_at, if_pos rfl]
      refine Rf.weak [(2, .int (nI 0)), (0, .ref 8)] ⟨rfl, rfl, trivial⟩ (loop 0 (Nat.zero_le _) I1 J (fun c hc => f1 c (by omega)) (fun s hs => absurd hs (Nat.not_lt_zero s)) (hTw1 _) (fun s hs => absurd hs (Nat.not_lt_zero s)) (fun s hs => absurd hs (Nat.not_lt_zero s)) AS.zero)
    · have w : ¬ I 8 4 < Int32.ofInt 12 := fun v => w (decide_eq_true v)
      rw [hrm] at w
      have : ¬ rm < 12 := fun v => w (nI_lt (b := 12) v (by decide))
      exact ⟨rfl, cf ⟨q, q3, qh, hx, ho, hpr⟩ (by omega)⟩
  · refine And.intro (fun w => absurd w (by decide)) (fun _ => ?_)
    exact ⟨rfl, cb hno⟩
end Cp
