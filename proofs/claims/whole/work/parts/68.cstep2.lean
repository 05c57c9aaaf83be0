/-! CompassTowers.step, CompassTowers.back as run -/
section Cs2
variable {K : Ka} {d o o2 p h n k : Nat} {M : Me} {I : Nat → Nat → Int32} {J : Nat → Nat → Int64} {D : Nat → Nat → Nat} {kd : Nat → Nat} {tl : Nat → Nat → Int32} {V : Nat → Nat → Nat → Nat} {g : Nat → Nat} {a b c z : Int32}
theorem StI.keep {I1 : Nat → Nat → Int32} (hS : StI I n kd tl) (h9 : I1 9 0 = I 9 0) (h10 : ∀ t, t < n → I1 10 t = I 10 t) (h11 : ∀ q, q < 3 * n → I1 11 q = I 11 q) : StI I1 n kd tl := ⟨h9.trans hS.1, hS.2.1, fun t ht => ⟨⟨(h10 t ht).trans (hS.2.2 t ht).1.1, (hS.2.2 t ht).1.2⟩, fun i hi => (h11 _ (by omega)).trans ((hS.2.2 t ht).2 i hi)⟩⟩
theorem HV.keep {I1 : Nat → Nat → Int32} {sr : Nat → Nat} (hv : HV I o p h n sr V) (hf : ∀ q, o + 26 ≤ q → q < o + 26 + 3 * n → I1 q = I q) : HV I1 o p h n sr V := fun s hs i hi => ⟨fun j hj => by rw [hf _ (by omega) (by have := szs_le (sr s); omega)]; exact (hv s hs i hi).1 j hj, (hv s hs i hi).2⟩
/-- cells that belong to the model stay -/
def FrK (I I1 : Nat → Nat → Int32) : Prop := ∀ a, 475 ≤ a → I1 a = I a
set_option maxHeartbeats 2000000 in
theorem c_step [NeZero p] {d' : Nat} {post : Option Value → Me → Prop} (hK : Kst K) (hM : CtM M o o2) (hR : CR I o p D h n kd tl V g) (hA : AS p D h n kd tl V g) (hd : d + 12 ≤ d')
    (cb : (¬ ∃ k, k < 14 ∧ z = nI k ∧ AgJ n kd k a b c) → post (some (.int (Int32.ofInt (-1)))) (St M I J))
    (cf : ∀ k, k < 14 → z = nI k → AgJ n kd k a b c → n = 60 → post (some (.int (Int32.ofInt (-6)))) (St M I J))
    (cr : ∀ k, k < 14 → z = nI k → AgJ n kd k a b c → n < 60 → ¬ (stF p D h V kd k a (tld k 1 b) (tld k 2 c)).1 = Int32.ofInt 0 → ∀ I1 J1, CR I1 o p D h n kd tl V g → FrK I I1 → I1 8 = I 8 → (∀ q, o2 ≤ q → q < o2 + 219 → I1 q = I q) → post (some (.int (stF p D h V kd k a (tld k 1 b) (tld k 2 c)).1)) (St M I1 J1))
    (cs : ∀ k, k < 14 → z = nI k → AgJ n kd k a b c → n < 60 → (stF p D h V kd k a (tld k 1 b) (tld k 2 c)).1 = Int32.ofInt 0 → ∀ I1 J1, CR I1 o p (stF p D h V kd k a (tld k 1 b) (tld k 2 c)).2.1 (stF p D h V kd k a (tld k 1 b) (tld k 2 c)).2.2.1 (n + 1) (ufn kd n k) (ufn tl n (t3 a (tld k 1 b) (tld k 2 c))) (ufn V n (stF p D h V kd k a (tld k 1 b) (tld k 2 c)).2.2.2) (ufn g n ((stF p D h V kd k a (tld k 1 b) (tld k 2 c)).2.2.1 - h)) → FrK I I1 → I1 8 = I 8 → (∀ q, o2 ≤ q → q < o2 + 219 → I1 q = I q) → post (some (.int (nI n))) (St M I1 J1)) : Ok K d' 75 [.ref 8, .int z, .int a, .int b, .int c] (St M I J) post := by
  refine Ok.up (d := d + 12) (post := post) ?_ hd (fun _ _ h => h)
  obtain ⟨hC, ⟨r0, r1, r2, r3⟩, hS, hH, hH2, hoo⟩ := hM
  obtain ⟨hSt, hTw, hv, hg⟩ := hR
  obtain ⟨s1, s2, s3⟩ := hSt
  have hkd : ∀ s, s < n → I (9 + 1) s = nI (kd s) ∧ kd s < 14 := fun s hs => (s3 s hs).1
  refine Ok.go (e := me_75) rfl rfl (Nat.le_of_ble_eq_true rfl) hC ?_
  refine Rf.go 200 [] ?_
  refine And.intro hC ⟨9, r0, ?_⟩
  refine s_allow (d := d) hK hS s1 s2 hkd (by omega) (fun k hk hz hAJ => ?_) (fun hno => ?_)
  · refine And.intro (fun _ => ?_) (fun q => absurd (by decide) q)
    refine And.intro hC ⟨9, r0, ?_⟩
    refine And.intro hS.1 ?_
    refine And.intro (fun q => ?_) (fun q => ?_)
    · have q : I 9 0 < Int32.ofInt 60 := of_decide_eq_true q
      rw [s1] at q
      have hn : n < 60 := (nI_ltI (b := 60) (by omega) (by decide)).mp q
      refine And.intro hC ⟨9, r0, ?_⟩
      refine And.intro hS.1 ?_
      refine And.intro hC ⟨9, r0, ?_⟩
      refine s_write (d := d) (k := k) hK hS s1 hn hk hz (by omega) (fun I1 w1 w2 w3 w4 w5 => ?_)
      refine And.intro hC ⟨o, r2, ?_⟩
      refine And.intro hC ⟨9, r0, ?_⟩
      have f1 : ∀ q, q ≠ 10 → q ≠ 11 → I1 q = I q := fun q h1 h2 => w5 q h1 h2
      have hSt1 : StI I1 n kd tl := StI.keep ⟨s1, s2, s3⟩ (by rw [f1 9 (by decide) (by decide)]) (fun t ht => w2 t (by omega)) (fun q hq => w4 q (Or.inl (by omega)))
      have hTw1 : TwA I1 (o + 1) p h D := hTw.keep (fun q h1 h2 => f1 q (by omega) (by omega))
      have hv1 : HV I1 o p h n (fun s => srt (kd s)) V := hv.keep (fun q h1 h2 => f1 q (by omega) (by omega))
      have hT := agJ_told s2 hk hAJ
      refine make_ok (d := d) (S := 9) (t := n) (k := k) (kd := kd) (V := V) (a := clp a) (b := clp (tld k 1 b)) (c := clp (tld k 2 c)) hK hH hTw1 hS (by omega) hSt1.1 s2 (Nat.le_refl n) hn (fun s hs => (hSt1.2.2 s hs).1) w1 hk hv1 w3.1 w3.2.1 w3.2.2 hT.1 hT.2.1 hT.2.2.1 hT.2.2.2 s1 (by omega) (fun I2 J2 ho hg2 hf2 => ?_)
      have ho : OutC I2 o p n (szs (srt k)) (stF p D h V kd k a (tld k 1 b) (tld k 2 c)) := ho
      have hg2 : I2 (o + 209) = (fun j => if j = n then nI ((stF p D h V kd k a (tld k 1 b) (tld k 2 c)).2.2.1 - h) else I1 (o + 209) j) := hg2
      have hRz : RzOk p D h (szs (srt k)) (stF p D h V kd k a (tld k 1 b) (tld k 2 c)) := mkF_ok hT.2.2.2
      have cr := cr k hk hz hAJ hn
      have cs := cs k hk hz hAJ hn
      show (cmpI .eq (stF p D h V kd k a (tld k 1 b) (tld k 2 c)).1 0 = true → _) ∧ (¬ cmpI .eq (stF p D h V kd k a (tld k 1 b) (tld k 2 c)).1 0 = true → rok _ (some (.int (stF p D h V kd k a (tld k 1 b) (tld k 2 c)).1)) = true ∧ post (some (.int (stF p D h V kd k a (tld k 1 b) (tld k 2 c)).1)) (St M I2 J2))
      generalize stF p D h V kd k a (tld k 1 b) (tld k 2 c) = R at ho hg2 hRz cr cs
      have f2 : ∀ q, (q < o + 1 ∨ o + 219 ≤ q) → I2 q = I1 q := fun q hq => hf2 q (by omega) (by omega) (by omega)
      have fk : FrK I I2 := fun q hq => (f2 q (by omega)).trans (f1 q (by omega) (by omega))
      have f8 : I2 8 = I 8 := (f2 8 (by omega)).trans (f1 8 (by decide) (by decide))
      have fo : ∀ q, o2 ≤ q → q < o2 + 219 → I2 q = I q := fun q h1 h2 => (f2 q (by omega)).trans (f1 q (by omega) (by omega))
      have hv2 : HV I2 o p h n (fun s => srt (kd s)) V := hv1.keep (fun q h1 h2 => hf2 q (by omega) (by omega) (by omega))
      have hgr : ∀ t, t < n → I2 (o + 209) t = nI (g t) := fun t ht => by
        rw [hg2]
        show (if t = n then _ else I1 (o + 209) t) = _
        rw [if_neg (by omega), f1 (o + 209) (by omega) (by omega)]
        exact hg t ht
      refine And.intro (fun q => ?_) (fun q => ?_)
      · have h0 : R.1 = Int32.ofInt 0 := of_decide_eq_true q
        refine And.intro hC ⟨9, r0, ?_⟩
        refine And.intro hS.1 ?_
        have e9 : I 9 0 + Int32.ofInt 1 = nI (n + 1) := by rw [s1]; exact nI_1 n
        have u9 : ∀ q, q ≠ 9 → u2 I2 9 0 (I 9 0 + Int32.ofInt 1) q = I2 q := fun q hq => u2_ne hq
        have hfin := cs h0 (u2 I2 9 0 (I 9 0 + Int32.ofInt 1)) J2 ⟨⟨?_, by omega, fun t ht => ?_⟩, ho.1.keep (fun q h1 h2 => u9 q (by omega)), fun s hs i hi => ?_, fun t ht => ?_⟩ (fun q hq => (u9 q (by omega)).trans (fk q hq)) ((u9 8 (by decide)).trans f8) (fun q h1 h2 => (u9 q (by omega)).trans (fo q h1 h2))
        · rw [← s1] at hfin
          exact ⟨rfl, hfin⟩
        · rw [u2_at, if_pos rfl, e9]
        · rw [u9 10 (by decide), u9 11 (by decide), f2 10 (by omega), f2 11 (by omega)]
          by_cases e : t = n
          · subst e
            rw [ufn_e, ufn_e]
            refine ⟨⟨w1, hk⟩, fun i hi => ?_⟩
            rcases (show i = 0 ∨ i = 1 ∨ i = 2 by omega) with rfl | rfl | rfl
            · exact w3.1
            · exact w3.2.1
            · exact w3.2.2
          · rw [ufn_n e, ufn_n e]
            exact hSt1.2.2 t (by omega)
        · by_cases e : s = n
          · subst e
            have hi : i < szs (srt (ufn kd s k s)) := hi
            rw [ufn_e] at hi
            rw [ufn_e]
            refine ⟨fun j hj => ?_, hRz.1 i⟩
            rw [u9 _ (by omega)]
            exact ho.2 h0 i hi j hj
          · have hi : i < szs (srt (ufn kd n k s)) := hi
            rw [ufn_n e] at hi
            rw [ufn_n e]
            have q2 := hv2 s (by omega) i hi
            refine ⟨fun j hj => ?_, q2.2.up (by rcases hRz.2.2 with w | w <;> omega)⟩
            rw [u9 _ (by omega)]
            exact q2.1 j hj
        · rw [u9 _ (by omega)]
          by_cases e : t = n
          · subst e
            rw [ufn_e, hg2]
            exact if_pos rfl
          · rw [ufn_n e]
            exact hgr t (by omega)
      · have h0 : ¬ R.1 = Int32.ofInt 0 := fun w => q (decide_eq_true w)
        refine ⟨rfl, cr h0 I2 J2 ⟨hSt1.keep (by rw [f2 9 (by omega)]) (fun t _ => by rw [f2 10 (by omega)]) (fun q _ => by rw [f2 11 (by omega)]), ?_, hv2, hgr⟩ fk f8 fo⟩
        rcases hRz.2.2 with w | w
        · have := ho.1
          rw [w.1, w.2] at this
          exact this
        · exact absurd w.1 h0
    · have q : ¬ I 9 0 < Int32.ofInt 60 := fun w => q (decide_eq_true w)
      rw [s1] at q
      have hn : n = 60 := by
        have : ¬ n < 60 := fun w => q (nI_lt (b := 60) w (by decide))
        omega
      exact ⟨rfl, cf k hk hz hAJ hn⟩
  · refine And.intro (fun q => absurd q (by decide)) (fun _ => ?_)
    exact ⟨rfl, cb hno⟩
end Cs2
