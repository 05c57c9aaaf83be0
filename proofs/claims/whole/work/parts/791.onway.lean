/-! on, way, one: answers -/
noncomputable def onA (p : Nat) [NeZero p] (D : Nat → Nat → Nat) (h n : Nat) (kd : Nat → Nat) (V : Nat → Nat → Nat → Nat) (s t : Int32) : Int32 := @ite _ (isT n kd s 1 ∧ (isT n kd t 2 ∨ isT n kd t 3)) (Classical.propDecidable _) (if srt (kd (clp t)) = 2 then (@ite _ ((TI p D h).add ((TI p D h).add ((TI p D h).mul (oV p D h (V (clp t) 0)) (oV p D h (V (clp s) 0))) ((TI p D h).mul (oV p D h (V (clp t) 1)) (oV p D h (V (clp s) 1)))) (oV p D h (V (clp t) 2)) = ((TI p D h).ofNat 0).ofNat) (Classical.propDecidable _) (Int32.ofInt 1) (Int32.ofInt 0)) else (@ite _ ((TI p D h).add ((TI p D h).mul ((TI p D h).sub (oV p D h (V (clp s) 0)) (oV p D h (V (clp t) 0))) ((TI p D h).sub (oV p D h (V (clp s) 0)) (oV p D h (V (clp t) 0)))) ((TI p D h).mul ((TI p D h).sub (oV p D h (V (clp s) 1)) (oV p D h (V (clp t) 1))) ((TI p D h).sub (oV p D h (V (clp s) 1)) (oV p D h (V (clp t) 1)))) = oV p D h (V (clp t) 2)) (Classical.propDecidable _) (Int32.ofInt 1) (Int32.ofInt 0))) (Int32.ofInt (-1))
noncomputable def wyA (p : Nat) [NeZero p] (D : Nat → Nat → Nat) (h n : Nat) (kd : Nat → Nat) (V : Nat → Nat → Nat → Nat) (s t : Int32) : Int32 := @ite _ (isT n kd s 2 ∧ isT n kd t 2) (Classical.propDecidable _) (@ite _ ((TI p D h).add ((TI p D h).mul (oV p D h (V (clp s) 0)) (oV p D h (V (clp t) 0))) ((TI p D h).mul (oV p D h (V (clp s) 1)) (oV p D h (V (clp t) 1))) = ((TI p D h).ofNat 0).ofNat) (Classical.propDecidable _) (Int32.ofInt 2) (@ite _ (oV p D h (V (clp s) 0) = oV p D h (V (clp t) 0) ∧ oV p D h (V (clp s) 1) = oV p D h (V (clp t) 1)) (Classical.propDecidable _) (Int32.ofInt 1) (Int32.ofInt 0))) (Int32.ofInt (-1))
section Qb
variable {K : Ka} {d o o2 m p h n : Nat} {M : Me} {I : Nat → Nat → Int32} {J : Nat → Nat → Int64} {D : Nat → Nat → Nat} {kd : Nat → Nat} {tl : Nat → Nat → Int32} {V : Nat → Nat → Nat → Nat} {g : Nat → Nat} {s t : Int32}
theorem s_sortAny {S d' : Nat} {x : Int32} {post : Option Value → Me → Prop} (hK : Kst K) (hM : StM M S) (hn : I S 0 = nI n) (hn6 : n ≤ 60) (hkd : ∀ s, s < n → I (S + 1) s = nI (kd s) ∧ kd s < 14) (hd : d + 2 ≤ d') (c1 : ∀ t, t < n → x = nI t → post (some (.int (nI (srt (kd t))))) (St M I J)) (c0 : ¬ inL x n → post (some (.int (Int32.ofInt (-1)))) (St M I J)) : Ok K d' 37 [.ref S, .int x] (St M I J) post := by
  cases hh : hsb n x with
  | true =>
    obtain ⟨t, ht, rfl⟩ := hsb_t hh hn6
    obtain ⟨k1, k2⟩ := hkd t ht
    refine (s_sortOf (d := d) hK hM hn hn6 ht k1 k2 rfl).up hd ?_
    rintro r M1 ⟨rfl, rfl⟩
    exact c1 t ht rfl
  | false =>
    refine (s_sortNo (d := d) hM hn hh).up hd ?_
    rintro r M1 ⟨rfl, rfl⟩
    exact c0 (fun w => by rw [(hsb_iff hn6).mpr w] at hh; cases hh)
theorem isT_n {a v : Nat} (ha : a < n) (hn : n ≤ 60) : isT n kd (nI a) v ↔ srt (kd a) = v := by
  constructor
  · rintro ⟨b, h1, h2, h3⟩
    rw [(nI_eq (by omega) (by omega)).mp h2]; exact h3
  · exact fun q => ⟨a, ha, rfl, q⟩
theorem isT_no {v : Nat} {x : Int32} (h : ¬ inL x n) : ¬ isT n kd x v := fun ⟨a, b, c, _⟩ => h ⟨a, b, c⟩
/-- scratch rows of the house written: the class's numbers stay -/
theorem CR.scr [NeZero p] {I1 : Nat → Nat → Int32} (ho : 12 ≤ o) (hR : CR I o p D h n kd tl V g) (hf : ∀ a, a ≠ o + 217 → a ≠ o + 218 → I1 a = I a) : CR I1 o p D h n kd tl V g := by
  obtain ⟨⟨s1, s2, s3⟩, hTw, hv, hg⟩ := hR
  refine ⟨⟨by rw [hf 9 (by omega) (by omega)]; exact s1, s2, fun t ht => ?_⟩, hTw.keep (fun a h1 h2 => hf a (by omega) (by omega)), hv.keep (fun q h1 h2 => hf q (by omega) (by omega)), fun t ht => by rw [hf _ (by omega) (by omega)]; exact hg t ht⟩
  rw [hf 10 (by omega) (by omega), hf 11 (by omega) (by omega)]
  exact s3 t ht
set_option maxHeartbeats 2000000 in
theorem c_on [NeZero p] {d' : Nat} {post : Option Value → Me → Prop} (hK : Kst K) (hM : CtM M o o2) (hR : CR I o p D h n kd tl V g) (hd : d + 5 ≤ d') (hp : ∀ I1 J1, (∀ a, a ≠ o + 217 → a ≠ o + 218 → I1 a = I a) → post (some (.int (onA p D h n kd V s t))) (St M I1 J1)) : Ok K d' 81 [.ref 8, .int s, .int t] (St M I J) post := by
  refine Ok.up (d := d + 5) (post := post) ?_ hd (fun _ _ h => h)
  obtain ⟨hC, ⟨r0, r1, r2, r3⟩, hS, hH, hH2, hoo⟩ := hM
  obtain ⟨⟨s1, s2, s3⟩, hTw, hv, hg⟩ := hR
  have hkd : ∀ s, s < n → I (9 + 1) s = nI (kd s) ∧ kd s < 14 := fun s hs => (s3 s hs).1
  have no : ¬ (isT n kd s 1 ∧ (isT n kd t 2 ∨ isT n kd t 3)) → onA p D h n kd V s t = Int32.ofInt (-1) := fun q => if_neg q
  have hp0 := hp I J (fun _ _ _ => rfl)
  refine Ok.go (e := me_81) rfl rfl (Nat.le_of_ble_eq_true rfl) hC ?_
  refine Rf.go 100 [] ?_
  refine And.intro hC ⟨9, r0, ?_⟩
  refine s_sortAny (d := d) hK hS s1 s2 hkd (by omega) (fun b hb hbt => ?_) (fun hnb => ?_)
  · refine And.intro hC ⟨9, r0, ?_⟩
    have hb4 := srt_lt (kd b) (s3 b hb).1.2
    refine s_sortAny (d := d) hK hS s1 s2 hkd (by omega) (fun a ha hat => ?_) (fun hna => ?_)
    · have ha4 := srt_lt (kd a) (s3 a ha).1.2
      subst hbt hat
      have ca : clp (nI a) = a := clp_n (by omega)
      have cb : clp (nI b) = b := clp_n (by omega)
      have hK0 := hK.1
      refine And.intro (fun q => ?_) (fun q => ?_)
      · have q : ¬ nI (srt (kd a)) = Int32.ofInt 1 := of_decide_eq_true q
        rw [no (fun w => q (by rw [(isT_n ha s2).mp w.1]; rfl))] at hp0
        exact ⟨rfl, hp0⟩
      have qa : srt (kd a) = 1 := by
        have q : nI (srt (kd a)) = Int32.ofInt 1 := Classical.not_not.mp (fun w => q (decide_eq_true w))
        exact (nI_eq (b := 1) (by omega) (by omega)).mp q
      have va : ∀ i, i < 2 → Re I p D h (o + 26 + 3 * a + i) (oV p D h (V a i)) := fun i hi => hv.re ha (szs_of (s := 1) qa (by revert hi; revert i; decide))
      have vb : ∀ i, i < 3 → (srt (kd b) = 2 ∨ srt (kd b) = 3) → Re I p D h (o + 26 + 3 * b + i) (oV p D h (V b i)) := fun i hi hs => hv.re hb (by rcases hs with w | w <;> exact szs_of w hi)
      have l2 : srt (kd b) = 2 → onA p D h n kd V (nI a) (nI b) = _ := fun w => (if_pos ⟨(isT_n ha s2).mpr qa, Or.inl ((isT_n hb s2).mpr w)⟩).trans (if_pos (by rw [cb]; exact w))
      have l3 : srt (kd b) = 3 → onA p D h n kd V (nI a) (nI b) = _ := fun w => (if_pos ⟨(isT_n ha s2).mpr qa, Or.inr ((isT_n hb s2).mpr w)⟩).trans (if_neg (by rw [cb, w]; decide))
      have e2 : cmpI .eq (nI (srt (kd b))) (Int32.ofInt 2) = true ↔ srt (kd b) = 2 := ⟨fun w => (nI_eq (b := 2) (by omega) (by omega)).mp (of_decide_eq_true w), fun w => decide_eq_true (by rw [w]; rfl)⟩
      have e3 : cmpI .eq (nI (srt (kd b))) (Int32.ofInt 3) = true ↔ srt (kd b) = 3 := ⟨fun w => (nI_eq (b := 3) (by omega) (by omega)).mp (of_decide_eq_true w), fun w => decide_eq_true (by rw [w]; rfl)⟩
      have n2 : cmpI .ne (nI (srt (kd b))) (Int32.ofInt 2) = true ↔ srt (kd b) ≠ 2 := ⟨fun w v => of_decide_eq_true w (by rw [v]; rfl), fun w => decide_eq_true (fun v => w ((nI_eq (b := 2) (by omega) (by omega)).mp v))⟩
      refine And.intro (fun q => ?_) (fun q => ?_)
      · have q2 := e2.mp q
        refine And.intro (fun w => absurd q2 (n2.mp w)) (fun _ => ?_)
        refine And.intro hC ⟨o, r2, ?_⟩
        have hp := fun I1 J1 hf => (l2 q2) ▸ hp I1 J1 hf
        rw [ca, cb] at hp
        refine H11 (d := d) (s := a) (t := b) hK0 hH hTw rfl rfl (by omega) (by omega) (va 0 (by decide)) (va 1 (by decide)) (vb 0 (by decide) (Or.inl q2)) (vb 1 (by decide) (Or.inl q2)) (vb 2 (by decide) (Or.inl q2)) (by omega) (fun z I1 J1 f => ?_) (fun z I1 J1 f => ?_)
        · have hp := hp I1 J1 f
          rw [if_pos z] at hp
          exact And.intro (fun w => absurd w (by decide)) (fun _ => ⟨rfl, hp⟩)
        · have hp := hp I1 J1 f
          rw [if_neg z] at hp
          exact And.intro (fun _ => ⟨rfl, hp⟩) (fun w => absurd (by decide) w)
      · have q2 : ¬ srt (kd b) = 2 := fun w => q (e2.mpr w)
        refine And.intro (fun q => ?_) (fun q => ?_)
        · have q3 := e3.mp q
          refine And.intro (fun _ => ?_) (fun w => absurd (n2.mpr q2) w)
          refine And.intro hC ⟨o, r2, ?_⟩
          have hp := fun I1 J1 hf => (l3 q3) ▸ hp I1 J1 hf
          rw [ca, cb] at hp
          refine H12 (d := d) (s := a) (t := b) hK0 hH hTw rfl rfl (by omega) (by omega) (va 0 (by decide)) (va 1 (by decide)) (vb 0 (by decide) (Or.inr q3)) (vb 1 (by decide) (Or.inr q3)) (vb 2 (by decide) (Or.inr q3)) (by omega) (fun z I1 J1 f => ?_) (fun z I1 J1 f => ?_)
          · have hp := hp I1 J1 f
            rw [if_pos z] at hp
            exact And.intro (fun w => absurd w (by decide)) (fun _ => ⟨rfl, hp⟩)
          · have hp := hp I1 J1 f
            rw [if_neg z] at hp
            exact And.intro (fun _ => ⟨rfl, hp⟩) (fun w => absurd (by decide) w)
        · have q3 : ¬ srt (kd b) = 3 := fun w => q (e3.mpr w)
          rw [no (fun w => w.2.elim (fun v => q2 ((isT_n hb s2).mp v)) (fun v => q3 ((isT_n hb s2).mp v)))] at hp0
          exact ⟨rfl, hp0⟩
    · rw [no (fun w => isT_no hna w.1)] at hp0
      exact And.intro (fun _ => ⟨rfl, hp0⟩) (fun w => absurd (by decide) w)
  · refine And.intro hC ⟨9, r0, ?_⟩
    rw [no (fun w => w.2.elim (isT_no hnb) (isT_no hnb))] at hp0
    refine s_sortAny (d := d) hK hS s1 s2 hkd (by omega) (fun a ha hat => ?_) (fun hna => ?_)
    · refine And.intro (fun _ => ⟨rfl, hp0⟩) (fun _ => ?_)
      refine And.intro (fun w => absurd w (by decide)) (fun _ => ?_)
      exact And.intro (fun w => absurd w (by decide)) (fun _ => ⟨rfl, hp0⟩)
    · exact And.intro (fun _ => ⟨rfl, hp0⟩) (fun w => absurd (by decide) w)
end Qb
