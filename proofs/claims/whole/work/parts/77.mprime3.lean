/-! The model's prime, its loop -/
section Mp3
variable {K : Ka} {d m p h n k : Nat} {M : Me} {I : Nat → Nat → Int32} {J : Nat → Nat → Int64} {D : Nat → Nat → Nat} {kd : Nat → Nat} {tl : Nat → Nat → Int32} {V : Nat → Nat → Nat → Nat} {g : Nat → Nat} {G : Nat → Nat → Int32} {x : Int32}
theorem Kp.lay {I1 I2 : Nat → Nat → Int32} {rm t : Nat} (hk : Kp I I1 m n rm) (hs : ∀ s, s ≠ t → I2 (m + 5) s = I1 (m + 5) s) (ht : I2 (m + 5) t = I (m + 5) t) (hc : ∀ c, c ≠ m + 5 → c ≠ m + 6 → c ≠ m + 7 → I2 c = I1 c) : Kp I I2 m n rm := by
  obtain ⟨a, b, ⟨c1, c2, c3⟩, e, f, g⟩ := hk
  refine ⟨fun c h1 h2 => (hc c (by omega) (by omega) (by omega)).trans (a c h1 h2), fun s hs2 => ?_, ⟨fun q hq => by rw [hc _ (by omega) (by omega) (by omega)]; exact c1 q hq, fun q hq => by rw [hc _ (by omega) (by omega) (by omega)]; exact c2 q hq, fun q hq => by rw [hc _ (by omega) (by omega) (by omega)]; exact c3 q hq⟩, fun q hq => (hc q (by omega) (by omega) (by omega)).trans (e q hq), by rw [hc m (by omega) (by omega) (by omega)]; exact f, by rw [hc m (by omega) (by omega) (by omega)]; exact g⟩
  by_cases e : s = t
  · rw [e]; exact ht
  · rw [hs s e]; exact b s hs2
set_option maxHeartbeats 8000000 in
theorem m_prime' {rm d' : Nat} {post : Option Value → Me → Prop} [NeZero p] (hM : MoM M m) (hR : MR I m p D h n kd tl V g) (hA : AS p D h n kd tl V g) (hrm : I m 21 = nI rm) (hrm2 : rm ≤ 12) (hd : d + 15 ≤ d')
    (cb : ¬ PrO x → post (some (.int (Int32.ofInt (-1)))) (St M (rg I m G) J))
    (cf : PrO x → rm = 12 → post (some (.int (Int32.ofInt (-6)))) (St M (rg I m G) J))
    (cr : ∀ (q : Nat) [NeZero q], 3 ≤ q → q ≤ 32749 → x = nI q → q % 2 = 1 → Pr q → rm < 12 → ∀ t, t < n → (∀ s, s < t → rmC q kd tl s = Int32.ofInt 0) → ¬ rmC q kd tl t = Int32.ofInt 0 → ∀ I1 J1, MR I1 m p D h n kd tl V g → I1 m 2 = rmC q kd tl t → I1 m 21 = nI (rm + 1) → (∀ a, a < m → I1 a = I a) → post (some (.int (Int32.ofInt (-20) - nI t))) (St M I1 J1))
    (cs : ∀ (q : Nat) [NeZero q], 3 ≤ q → q ≤ 32749 → x = nI q → q % 2 = 1 → Pr q → rm < 12 → (∀ s, s < n → rmC q kd tl s = Int32.ofInt 0) → ∀ I1 J1, MR I1 m q (rmS q kd tl n).1 (rmS q kd tl n).2.1 n kd tl (rmS q kd tl n).2.2.1 (rmS q kd tl n).2.2.2 → I1 m 2 = I m 2 → I1 m 21 = nI (rm + 1) → (∀ a, a < m → I1 a = I a) → post (some (.int (nI n))) (St M I1 J1)) : Ok K d' 142 [.ref m, .int x] (St M (rg I m G) J) post := by
  refine Ok.up (d := d + 15) (post := post) ?_ hd (fun _ _ h => h)
  have hR0 := hR
  obtain ⟨mA, ⟨t1, t2, t3'⟩, mS, mV, mB⟩ := hR
  refine Ok.go (e := me_142) rfl rfl (Nat.le_of_ble_eq_true rfl) hM.c ?_
  have hlo : ∀ q, 3 ≤ q → q ≤ 32749 → x = nI q → ((Int64.ofNat 3 : Int64) ≤ x.toInt64 ∧ x.toInt64 ≤ Int64.ofNat 32749) := fun q h1 h2 hx => by
    have e1 : (Int64.ofNat 3 : Int64) = (nI 3).toInt64 := (nI_l (n := 3) (by decide)).symm
    have e2 : (Int64.ofNat 32749 : Int64) = (nI 32749).toInt64 := (nI_l (n := 32749) (by decide)).symm
    rw [e1, e2, l_le, l_le, hx]
    exact ⟨nI_le h1 (by omega), nI_le h2 (by decide)⟩
  refine Rf.go 100 [23] ?_
  refine m_in (d := d) (by omega) (fun w => ?_) (fun w => ?_)
  · have hq : ∃ q, 3 ≤ q ∧ q ≤ 32749 ∧ x = nI q := by
      have e1 : (Int64.ofNat 3 : Int64) = (nI 3).toInt64 := (nI_l (n := 3) (by decide)).symm
      have e2 : (Int64.ofNat 32749 : Int64) = (nI 32749).toInt64 := (nI_l (n := 32749) (by decide)).symm
      rw [e1, e2, l_le, l_le] at w
      have w0 : ¬ x < 0 := fun v => absurd (Int32.le_trans w.1 (Int32.le_of_lt v)) (by decide)
      obtain ⟨q, hq, rfl⟩ := nI_of w0
      exact ⟨q, (nI_leI (by decide) hq).mp w.1, (nI_leI hq (by decide)).mp w.2, rfl⟩
    obtain ⟨q, q3, qh, hx⟩ := hq
    refine And.intro (fun v => absurd v (by decide)) (fun _ => ?_)
    refine m_isPrime (d := d) hx q3 qh (by omega) (fun ho hpr => ?_) (fun hno => ?_)
    · refine And.intro (fun _ => ?_) (fun v => absurd (by decide) v)
      refine And.intro hM.c ?_
      have r21 : rg I m G m 21 = nI rm := by rw [rg_m]; exact hrm
      refine And.intro (fun v => ?_) (fun v => ?_)
      · have v : ¬ rg I m G m 21 = Int32.ofInt 12 := of_decide_eq_true v
        rw [r21] at v
        have hrl : rm < 12 := by
          have : rm ≠ 12 := fun u => v (by rw [u]; rfl)
          omega
        haveI hq0 : NeZero q := ⟨by omega⟩
        have cr := cr q q3 qh hx ho hpr hrl
        have cs := cs q q3 qh hx ho hpr hrl
        refine And.intro rfl ?_
        refine And.intro hM.c ?_
        refine And.intro hM.c ?_
        refine Rf.put ?_
        have y21 : u2 I m 21 (rg I m G m 21 + Int32.ofInt 1) m 21 = nI (rm + 1) := by rw [u2_at, if_pos rfl, r21]; exact nI_1 rm
        have ym : ∀ c, c ≠ 21 → u2 I m 21 (rg I m G m 21 + Int32.ofInt 1) m c = I m c := fun c hc => by rw [u2_at, if_neg hc]
        have yn : ∀ c, c ≠ m → u2 I m 21 (rg I m G m 21 + Int32.ofInt 1) c = I c := fun c hc => u2_ne hc
        show Rf K (d + 14) mc_142 23 _ [] (St M (rg (u2 I m 21 (rg I m G m 21 + Int32.ofInt 1)) m G) J) _
        generalize u2 I m 21 (rg I m G m 21 + Int32.ofInt 1) = I0 at y21 ym yn
        refine Rf.go 100 [31] ?_
        refine And.intro hM.c ?_
        refine And.intro hM.c ?_
        refine Rf.weak [(4, .int (nI 0)), (0, .ref m), (1, .int (nI q)), (2, .int (nI p)), (3, .int (nI h))] ⟨rfl, rfl, congrArg (fun z => some (Value.int z)) hx, congrArg (fun z => some (Value.int z)) (show rg I0 m G m 0 = nI p by rw [rg_m, ym 0 (by decide)]; exact mA.1.1), congrArg (fun z => some (Value.int z)) (show rg I0 m G m 1 = nI h by rw [rg_m, ym 1 (by decide)]; exact mA.1.2.1), trivial⟩ (q_1 hM ?_)
        refine Rf.go 100 [46] ?_
        refine Rf.weak [(4, .int (nI 0)), (0, .ref m), (1, .int (nI q)), (2, .int (nI p)), (3, .int (nI h))] ⟨rfl, rfl, rfl, rfl, rfl, trivial⟩ (q_2 hM ?_)
        refine Rf.go 100 [61] ?_
        refine Rf.weak [(4, .int (nI 0)), (0, .ref m), (1, .int (nI q)), (2, .int (nI p)), (3, .int (nI h))] ⟨rfl, rfl, rfl, rfl, rfl, trivial⟩ (q_3 hM (fun s hs => ?_) ?_)
        · rw [cpy_n (by omega), cpy_n (by omega), yn _ (by omega)]
          exact mB s hs
        generalize hI3 : cpy (cpy (cpy I0 (m + 13) (m + 7) 1440) (m + 14) (m + 8) 24) (m + 15) (m + 6) 60 = I3
        have z : ∀ c, c ≠ m → c ≠ m + 13 → c ≠ m + 14 → c ≠ m + 15 → I3 c = I c := fun c h1 h2 h3 h4 => by rw [← hI3, cpy_n h4, cpy_n h3, cpy_n h2, yn c h1]
        have zm : I3 m = I0 m := by rw [← hI3, cpy_n (by omega), cpy_n (by omega), cpy_n (by omega)]
        have z13 : ∀ c, c < 1440 → I3 (m + 13) c = I (m + 7) c := fun c hc => by rw [← hI3, cpy_n (by omega), cpy_n (by omega), cpy_e, if_pos hc, yn _ (by omega)]
        have z14 : ∀ c, c < 24 → I3 (m + 14) c = I (m + 8) c := fun c hc => by rw [← hI3, cpy_n (by omega), cpy_e, if_pos hc, cpy_n (by omega), yn _ (by omega)]
        have z15 : ∀ c, c < 60 → I3 (m + 15) c = I (m + 6) c := fun c hc => by rw [← hI3, cpy_e, if_pos hc, cpy_n (by omega), cpy_n (by omega), yn _ (by omega)]
        refine Rf.go 100 [77] ?_
        refine And.intro hM.c ?_
        refine Rf.put ?_
        have w0 : u2 I3 m 0 (nI q) m 0 = nI q := by rw [u2_at, if_pos rfl]
        have wm : ∀ c, c ≠ 0 → u2 I3 m 0 (nI q) m c = I3 m c := fun c hc => by rw [u2_at, if_neg hc]
        have wn : ∀ c, c ≠ m → u2 I3 m 0 (nI q) c = I3 c := fun c hc => u2_ne hc
        show Rf K (d + 14) mc_142 77 _ [] (St M (rg (u2 I3 m 0 (nI q)) m G) J) _
        generalize u2 I3 m 0 (nI q) = I4 at w0 wm wn
        refine Rf.go 100 [88] ?_
        refine m_rebuild (d := d) (p := q) (D := (rmS q kd tl 0).1) (h := 0) hM w0 ⟨q3, qh⟩ hpr ho rfl (by decide) (fun i hi => absurd hi (Nat.not_lt_zero i)) (fun i hi => absurd hi (Nat.not_lt_zero i)) (fun i hi => absurd hi (Nat.not_lt_zero i)) (by omega) (fun I5 G5 J5 hA5 f5 c5 m5 => ?_)
        refine And.intro hM.c ?_
        refine And.intro hM.c ?_
        refine Rf.put ?_
        have v3 : rg I5 m G5 m 3 = nI n := by rw [rg_m, m5 3 (by decide), wm 3 (by decide), zm, ym 3 (by decide)]; exact t1
        have cc : ∀ c, c ≠ m → c ≠ m + 8 → c ≠ m + 9 → c ≠ m + 10 → I5 c = I3 c := fun c h1 h2 h3 h4 => (c5 c h1 h2 h3 h4).trans (wn c h1)
        have kp5 : Kp I I5 m n rm := ⟨fun c h1 h2 => (cc c (by omega) (by omega) (by omega) (by omega)).trans (z c (by omega) (by omega) (by omega) (by omega)), fun s hs => by rw [cc _ (by omega) (by omega) (by omega) (by omega), z _ (by omega) (by omega) (by omega) (by omega)], ⟨fun c hc => by rw [cc _ (by omega) (by omega) (by omega) (by omega)]; exact z13 c hc, fun c hc => by rw [cc _ (by omega) (by omega) (by omega) (by omega)]; exact z14 c hc, fun c hc => by rw [cc _ (by omega) (by omega) (by omega) (by omega)]; exact z15 c hc⟩, fun a ha => (cc a (by omega) (by omega) (by omega) (by omega)).trans (z a (by omega) (by omega) (by omega) (by omega)), by rw [m5 2 (by decide), wm 2 (by decide), zm, ym 2 (by decide)], by rw [m5 21 (by decide), wm 21 (by decide), zm]; exact y21⟩
        have gb5 : ∀ s, s < 60 → I5 (m + 6) s = 0 ∨ I5 (m + 6) s = 1 := fun s hs => by
          rw [cc _ (by omega) (by omega) (by omega) (by omega), z _ (by omega) (by omega) (by omega) (by omega)]
          exact mB s hs
        -- the loop
        have loop : ∀ t, t ≤ n → ∀ (I6 G6 : Nat → Nat → Int32) (J6 : Nat → Nat → Int64), Kp I I6 m n rm → I6 m 3 = nI t → (∀ s, s < 60 → I6 (m + 6) s = 0 ∨ I6 (m + 6) s = 1) → (∀ s, s < t → rmC q kd tl s = Int32.ofInt 0) → MoA I6 m q (rmS q kd tl t).2.1 (rmS q kd tl t).1 → HVm I6 m q (rmS q kd tl t).2.1 t (fun s => srt (kd s)) (rmS q kd tl t).2.2.1 → (∀ s, s < t → I6 (m + 6) s = nI ((rmS q kd tl t).2.2.2 s)) → AS q (rmS q kd tl t).1 (rmS q kd tl t).2.1 t kd tl (rmS q kd tl t).2.2.1 (rmS q kd tl t).2.2.2 → Rf K (d + 14) mc_142 88 (lk [(0, .ref m), (2, .int (nI p)), (3, .int (nI h)), (4, .int (nI n)), (5, .int (Int32.ofInt 0))]) [] (St M (rg I6 m G6) J6) (fun r M1 => rok me_142.2.2.2.1 r = true ∧ post r M1) := by
          refine for_up n (fun I6 G6 J6 kp h3 gb hz hW hV hG hAS => ?_) (fun t ht ih I6 G6 J6 kp h3 gb hz hW hV hG hAS => ?_)
          · have r3 : rg I6 m G6 m 3 = nI n := by rw [rg_m]; exact h3
            refine Rf.go 100 [138] ?_
            refine And.intro hM.c ?_
            refine And.intro (fun _ => ?_) (fun u => absurd (by show decide (nI n ≤ rg I6 m G6 m 3) = true; rw [r3]; exact decide_eq_true (Int32.le_refl _)) u)
            refine And.intro hM.c ?_
            refine And.intro hM.c ?_
            refine Rf.put ?_
            refine Rf.go 100 [] ?_
            refine And.intro (fun u => absurd u (by decide)) (fun _ => ?_)
            have e3 : u2 I6 m 3 (nI n) = I6 := by
              funext c
              unfold u2
              by_cases e : c = m
              · rw [if_pos e]
                funext j
                rw [va_i, e]
                by_cases e2 : j = 3
                · rw [if_pos e2, e2, h3]
                · rw [if_neg e2]
              · rw [if_neg e]
            have hfin := cs hz (rg I6 m G6) J6 ⟨hW.rg, ⟨r3, t2, fun s hs => ?_⟩, fun s hs => ?_, fun s hs i hi => ⟨fun j hj => ?_, (hV s hs i hi).2⟩, fun s hs => ?_⟩ (by rw [rg_m]; exact kp.2.2.2.2.1) (by rw [rg_m]; exact kp.2.2.2.2.2) (fun a ha => (rg_ne (by omega)).trans (kp.2.2.2.1 a ha))
            · rw [← e3] at hfin
              exact ⟨rfl, hfin⟩
            · rw [rg_ne (by omega), kp.2.1 s hs]
              exact t3' s hs
            · rw [rg_ne (by omega), rg_ne (by omega), rg_ne (by omega), rg_ne (by omega), rg_ne (by omega), kp.1 (m + 1) (by omega) (by omega), kp.1 (m + 2) (by omega) (by omega), kp.1 (m + 3) (by omega) (by omega), kp.1 (m + 4) (by omega) (by omega)]
              exact ⟨(mS s hs).1, (mS s hs).2.1, (mS s hs).2.2.1, (mS s hs).2.2.2.1, hG s hs⟩
            · rw [rg_ne (by omega)]
              exact (hV s hs i hi).1 j hj
            · rw [rg_ne (by omega)]
              exact gb s hs
          · have r3 : rg I6 m G6 m 3 = nI t := by rw [rg_m]; exact h3
            have hT := (hA.1 t ht).2
            have hk14 := (hA.1 t ht).1
            have a60 : ∀ c, m + 1 ≤ c → c ≤ m + 5 → isC M c 10 = true ∧ (mH M c).2 = 60 := fun c h1 h2 => hM.a60 ⟨h1, h2⟩
            have ib : ∀ c, m + 1 ≤ c → c ≤ m + 5 → inb (rg I6 m G6 m 3) (mH M c).2 = true := fun c h1 h2 => by
              rw [r3, (a60 c h1 h2).2]
              exact inb_n (by omega) (by omega)
            have cell : ∀ c, m + 1 ≤ c → c ≤ m + 4 → rg I6 m G6 c (rg I6 m G6 m 3).toNatClampNeg = I c t := fun c h1 h2 => by
              rw [r3, nI_clamp (by omega), rg_ne (by omega), kp.1 c h1 h2]
            obtain ⟨ms1, ms2, ms3, ms4, ms6⟩ := mS t ht
            refine Rf.go 200 [88, 123] ?_
            refine And.intro hM.c ?_
            refine And.intro (fun u => absurd (of_decide_eq_true u) (by show ¬ nI n ≤ rg I6 m G6 m 3; rw [r3]; exact nI_ge ht (by omega))) (fun _ => ?_)
            refine And.intro (fun u => absurd u (by decide)) (fun _ => ?_)
            refine And.intro hM.c ⟨m + 1, hM.r4, ?_⟩
            refine And.intro hM.c ?_
            refine Or.inr (And.intro ⟨(a60 (m + 1) (by omega) (by omega)).1, ib (m + 1) (by omega) (by omega)⟩ ?_)
            refine And.intro hM.c ⟨m + 2, hM.r5, ?_⟩
            refine And.intro hM.c ?_
            refine Or.inr (And.intro ⟨(a60 (m + 2) (by omega) (by omega)).1, ib (m + 2) (by omega) (by omega)⟩ ?_)
            refine And.intro hM.c ⟨m + 3, hM.r6, ?_⟩
            refine And.intro hM.c ?_
            refine Or.inr (And.intro ⟨(a60 (m + 3) (by omega) (by omega)).1, ib (m + 3) (by omega) (by omega)⟩ ?_)
            refine And.intro hM.c ⟨m + 4, hM.r7, ?_⟩
            refine And.intro hM.c ?_
            refine Or.inr (And.intro ⟨(a60 (m + 4) (by omega) (by omega)).1, ib (m + 4) (by omega) (by omega)⟩ ?_)
            have mk := makeM_ok (K := K) (d := d) (J := J6) (I := I6) (G := G6) (V := (rmS q kd tl t).2.2.1) (D := (rmS q kd tl t).1) (p := q) (h := (rmS q kd tl t).2.1) (t := t) (k := kd t) (a := clp (tl t 0)) (b := clp (tl t 1)) (c := clp (tl t 2)) (zk := nI (kd t)) (z := tl t 0) (w1 := tl t 1) (w2 := tl t 2) (kd := kd) (d' := d + 14) (post := fun r M1 => ∃ I7 G7 J7, OutM I6 I7 G7 m q (rmS q kd tl t).2.1 (szs (srt (kd t))) (nI (srt (kd t))) (stF q (rmS q kd tl t).1 (rmS q kd tl t).2.1 (rmS q kd tl t).2.2.1 kd (kd t) (tl t 0) (tl t 1) (tl t 2)) ∧ r = some (.int (rmC q kd tl t)) ∧ M1 = St M (rg I7 m G7) J7) hM hW (by omega) hV (fun s hs => by rw [kp.2.1 s (by omega)]; exact (t3' s (by omega)).1) hAS.2.1 rfl hT.1 hT.2.1 hT.2.2.1 hT.2.2.2 (by omega) (fun I7 G7 J7 ho7 => ⟨I7, G7, J7, ho7, rfl, rfl⟩)
            rw [← ms1, ← ms2, ← ms3, ← ms4, ← cell (m + 1) (by omega) (by omega), ← cell (m + 2) (by omega) (by omega), ← cell (m + 3) (by omega) (by omega), ← cell (m + 4) (by omega) (by omega)] at mk
            refine mk.up (Nat.le_refl _) ?_
            rintro r M1 ⟨I7, G7, J7, ho7, rfl, rfl⟩
            rw [cell (m + 2) (by omega) (by omega), cell (m + 3) (by omega) (by omega), cell (m + 4) (by omega) (by omega), ms2, ms3, ms4] at ho7
            have hRz : RzOk q (rmS q kd tl t).1 (rmS q kd tl t).2.1 (szs (srt (kd t))) (stF q (rmS q kd tl t).1 (rmS q kd tl t).2.1 (rmS q kd tl t).2.2.1 kd (kd t) (tl t 0) (tl t 1) (tl t 2)) := mkF_ok hT.2.2.2
            have hle : (rmS q kd tl t).2.1 ≤ (rmS q kd tl (t + 1)).2.1 := by
              show (rmS q kd tl t).2.1 ≤ (stF q (rmS q kd tl t).1 (rmS q kd tl t).2.1 (rmS q kd tl t).2.2.1 kd (kd t) (tl t 0) (tl t 1) (tl t 2)).2.2.1
              rcases hRz.2.2 with v | v <;> omega
            obtain ⟨p1, p2, p4, p5⟩ := ho7
            have kp7 : Kp I I7 m n rm := kp.fx p5
            have i73 : I7 m 3 = nI t := (p5.2 3 (by decide) (by decide) (by decide)).trans h3
            show (cmpI .ne (rmC q kd tl t) 0 = true → _) ∧ (¬ cmpI .ne (rmC q kd tl t) 0 = true → _)
            refine And.intro (fun u => ?_) (fun u => ?_)
            · have h0 : ¬ rmC q kd tl t = Int32.ofInt 0 := of_decide_eq_true u
              have e1 : rg I7 m G7 m 3 + Int32.ofInt 1 = nI (t + 1) := by rw [rg_m, i73]; exact nI_1 t
              refine Rf.go 100 [88] ?_
              refine And.intro rfl ?_
              refine And.intro hM.c ?_
              refine And.intro hM.c ?_
              refine Rf.put ?_
              show Rf K (d + 14) mc_142 88 _ [] (St M (rg (u2 I7 m 3 (rg I7 m G7 m 3 + Int32.ofInt 1)) m G7) J7) _
              rw [e1]
              have bad := mp_bad (K := K) (d := d + 11) (G := G7) (J := J7) (I1 := u2 I7 m 3 (nI (t + 1))) (t := t) (no := rmC q kd tl t) (post := post) hM hR0 hA kp7.p3 (by omega) (by rw [u2_at, if_pos rfl]) h0 (fun I9 J9 a1 a2 a3 a4 => cr t ht hz h0 I9 J9 a1 a2 a3 a4)
              have bw : ∀ L : Lf, lkOk L [(0, .ref m), (2, .int (nI p)), (3, .int (nI h)), (4, .int (nI n)), (5, .int (rmC q kd tl t))] → Rf K (d + 14) mc_142 130 L [] (St M (rg (u2 I7 m 3 (nI (t + 1))) m G7) J7) (fun r M1 => rok me_142.2.2.2.1 r = true ∧ post r M1) := fun L hL => Rf.weak _ hL bad
              refine Rf.go 100 [130] ?_
              refine And.intro hM.c ?_
              refine And.intro (fun _ => bw _ ⟨rfl, rfl, rfl, rfl, rfl, trivial⟩) (fun _ => ?_)
              exact And.intro (fun _ => bw _ ⟨rfl, rfl, rfl, rfl, rfl, trivial⟩) (fun u2' => absurd (decide_eq_true (show ¬ rmC q kd tl t = 0 from h0)) u2')
            · have h0 : rmC q kd tl t = Int32.ofInt 0 := Classical.not_not.mp (fun y => u (decide_eq_true y))
              obtain ⟨ov, o16⟩ := p2 h0
              have hg1 : (stF q (rmS q kd tl t).1 (rmS q kd tl t).2.1 (rmS q kd tl t).2.2.1 kd (kd t) (tl t 0) (tl t 1) (tl t 2)).2.2.1 - (rmS q kd tl t).2.1 ≤ 1 := by rcases hRz.2.2 with v | v <;> omega
              refine And.intro hM.c ?_
              refine m_lay (d := d) (t := t) (so := srt (kd t)) hM (by show rg I7 m G7 m 3 = nI t; rw [rg_m]; exact i73) (by omega) o16 (srt_lt _ hk14) (by
                rw [p4]
                rcases (show (stF q (rmS q kd tl t).1 (rmS q kd tl t).2.1 (rmS q kd tl t).2.2.1 kd (kd t) (tl t 0) (tl t 1) (tl t 2)).2.2.1 - (rmS q kd tl t).2.1 = 0 ∨ (stF q (rmS q kd tl t).1 (rmS q kd tl t).2.1 (rmS q kd tl t).2.2.1 kd (kd t) (tl t 0) (tl t 1) (tl t 2)).2.2.1 - (rmS q kd tl t).2.1 = 1 by omega) with y | y <;> rw [y] <;> decide) (by omega) (fun I8 y5 y6 ys yv yq yc => ?_)
              have i8m : I8 m = I7 m := yc m (by omega) (by omega) (by omega)
              have e1 : rg I8 m G7 m 3 + Int32.ofInt 1 = nI (t + 1) := by rw [rg_m, i8m, i73]; exact nI_1 t
              have kp8 : Kp I I8 m n rm := kp7.lay (t := t) (fun s hs => (ys s hs).1) (by rw [y5]; exact (t3' t ht).1.symm) yc
              refine Rf.go 100 [88] ?_
              refine And.intro rfl ?_
              refine And.intro hM.c ?_
              refine And.intro hM.c ?_
              refine Rf.put ?_
              show Rf K (d + 14) mc_142 88 _ [] (St M (rg (u2 I8 m 3 (rg I8 m G7 m 3 + Int32.ofInt 1)) m G7) J7) _
              rw [e1]
              have un : ∀ c, c ≠ m → u2 I8 m 3 (nI (t + 1)) c = I8 c := fun c hc => u2_ne hc
              have um : ∀ c, c ≠ 3 → u2 I8 m 3 (nI (t + 1)) m c = I7 m c := fun c hc => by rw [u2_at, if_neg hc, i8m]
              refine Rf.weak [(0, .ref m), (2, .int (nI p)), (3, .int (nI h)), (4, .int (nI n)), (5, .int (Int32.ofInt 0))] ⟨rfl, rfl, rfl, rfl, congrArg (fun z => some (Value.int z)) h0, trivial⟩ (ih (u2 I8 m 3 (nI (t + 1))) G7 J7 kp8.p3 (by rw [u2_at, if_pos rfl]) (fun s hs => ?_) (fun s hs => ?_) (p1.keep (um 0 (by decide)) (um 1 (by decide)) ?_ ?_) (fun s hs i hi => ?_) (fun s hs => ?_) (AS.up2 hpr ho q3 hW.2.2.1 hk14 hAS hT h0))
              · rw [un _ (by omega)]
                by_cases e : s = t
                · rw [e, y6, p4]
                  rcases (show (stF q (rmS q kd tl t).1 (rmS q kd tl t).2.1 (rmS q kd tl t).2.2.1 kd (kd t) (tl t 0) (tl t 1) (tl t 2)).2.2.1 - (rmS q kd tl t).2.1 = 0 ∨ (stF q (rmS q kd tl t).1 (rmS q kd tl t).2.1 (rmS q kd tl t).2.2.1 kd (kd t) (tl t 0) (tl t 1) (tl t 2)).2.2.1 - (rmS q kd tl t).2.1 = 1 by omega) with y | y <;> rw [y] <;> decide
                · rw [(ys s e).2, p5.1 _ (by omega) (by omega) (by omega) (by omega)]
                  exact gb s hs
              · by_cases e : s = t
                · rw [e]; exact h0
                · exact hz s (by omega)
              · rw [un _ (by omega)]; exact yc _ (by omega) (by omega) (by omega)
              · rw [un _ (by omega)]; exact yc _ (by omega) (by omega) (by omega)
              · rw [un _ (by omega)]
                show (∀ j, j < 8 → I8 (m + 7) (24 * s + 8 * i + j) = nI (ufn (rmS q kd tl t).2.2.1 t _ s i j)) ∧ vOk q _ (ufn (rmS q kd tl t).2.2.1 t _ s i) ∧ (_ → ufn (rmS q kd tl t).2.2.1 t _ s i = fun _ => 0)
                by_cases e : s = t
                · subst e
                  rw [ufn_e]
                  refine ⟨fun j hj => ?_, hRz.1 i, fun hzz => hRz.2.1 i hzz hi⟩
                  rw [yv i hi j hj]
                  by_cases y : i < szs (srt (kd s))
                  · rw [if_pos y]
                    exact ov i y j hj
                  · rw [if_neg y, hRz.2.1 i (by omega) hi]
                    rfl
                · rw [ufn_n e]
                  obtain ⟨q1, q2, q4⟩ := hV s (by omega) i hi
                  refine ⟨fun j hj => ?_, q2.up hle, q4⟩
                  rw [yq _ (by omega), p5.1 _ (by omega) (by omega) (by omega) (by omega)]
                  exact q1 j hj
              · rw [un _ (by omega)]
                show I8 (m + 6) s = nI (ufn (rmS q kd tl t).2.2.2 t _ s)
                by_cases e : s = t
                · rw [e, y6, p4, ufn_e]
                · rw [(ys s e).2, ufn_n e, p5.1 _ (by omega) (by omega) (by omega) (by omega)]
                  exact hG s (by omega)
        have un : ∀ c, c ≠ m → u2 I5 m 3 (Int32.ofInt 0) c = I5 c := fun c hc => u2_ne hc
        have um : ∀ c, c ≠ 3 → u2 I5 m 3 (Int32.ofInt 0) m c = I5 m c := fun c hc => by rw [u2_at, if_neg hc]
        refine Rf.weak [(0, .ref m), (2, .int (nI p)), (3, .int (nI h)), (4, .int (nI n)), (5, .int (Int32.ofInt 0))] ⟨rfl, rfl, rfl, congrArg (fun z => some (Value.int z)) v3, rfl, trivial⟩ (loop 0 (Nat.zero_le _) (u2 I5 m 3 (Int32.ofInt 0)) G5 J5 kp5.p3 (by rw [u2_at, if_pos rfl]; rfl) (fun s hs => by rw [un _ (by omega)]; exact gb5 s hs) (fun s hs => absurd hs (Nat.not_lt_zero s)) (hA5.keep (um 0 (by decide)) (um 1 (by decide)) (un _ (by omega)) (un _ (by omega))) (fun s hs => absurd hs (Nat.not_lt_zero s)) (fun s hs => absurd hs (Nat.not_lt_zero s)) AS.zero)
      · have v : rg I m G m 21 = Int32.ofInt 12 := Classical.not_not.mp (fun u => v (decide_eq_true u))
        rw [r21] at v
        have : rm = 12 := (nI_eq (b := 12) (by omega) (by omega)).mp v
        exact ⟨rfl, cf ⟨q, q3, qh, hx, ho, hpr⟩ this⟩
    · refine And.intro (fun v => absurd v (by decide)) (fun _ => ?_)
      refine ⟨rfl, cb ?_⟩
      rintro ⟨q2, h1, h2, h4, h5, h6⟩
      have : q = q2 := (nI_eq (by omega) (by omega)).mp (hx.symm.trans h4)
      subst this
      exact hno ⟨h5, h6⟩
  · refine And.intro (fun _ => ?_) (fun v => absurd (by decide) v)
    refine ⟨rfl, cb ?_⟩
    rintro ⟨q2, h1, h2, h4, h5, h6⟩
    exact w (hlo q2 h1 h2 h4)
theorem m_prime {rm d' : Nat} {post : Option Value → Me → Prop} [NeZero p] (hM : MoM M m) (hR : MR I m p D h n kd tl V g) (hA : AS p D h n kd tl V g) (hrm : I m 21 = nI rm) (hrm2 : rm ≤ 12) (hd : d + 15 ≤ d')
    (cb : ¬ PrO x → post (some (.int (Int32.ofInt (-1)))) (St M I J))
    (cf : PrO x → rm = 12 → post (some (.int (Int32.ofInt (-6)))) (St M I J))
    (cr : ∀ (q : Nat) [NeZero q], 3 ≤ q → q ≤ 32749 → x = nI q → q % 2 = 1 → Pr q → rm < 12 → ∀ t, t < n → (∀ s, s < t → rmC q kd tl s = Int32.ofInt 0) → ¬ rmC q kd tl t = Int32.ofInt 0 → ∀ I1 J1, MR I1 m p D h n kd tl V g → I1 m 2 = rmC q kd tl t → I1 m 21 = nI (rm + 1) → (∀ a, a < m → I1 a = I a) → post (some (.int (Int32.ofInt (-20) - nI t))) (St M I1 J1))
    (cs : ∀ (q : Nat) [NeZero q], 3 ≤ q → q ≤ 32749 → x = nI q → q % 2 = 1 → Pr q → rm < 12 → (∀ s, s < n → rmC q kd tl s = Int32.ofInt 0) → ∀ I1 J1, MR I1 m q (rmS q kd tl n).1 (rmS q kd tl n).2.1 n kd tl (rmS q kd tl n).2.2.1 (rmS q kd tl n).2.2.2 → I1 m 2 = I m 2 → I1 m 21 = nI (rm + 1) → (∀ a, a < m → I1 a = I a) → post (some (.int (nI n))) (St M I1 J1)) : Ok K d' 142 [.ref m, .int x] (St M I J) post := by
  have w := m_prime' (K := K) (d := d) (d' := d') (J := J) (post := post) (x := x) (G := fun r j => I (m + 11) (8 * r + j)) hM hR hA hrm hrm2 hd (by rw [rg_self]; exact cb) (by rw [rg_self]; exact cf) cr cs
  rw [rg_self] at w
  exact w
end Mp3
