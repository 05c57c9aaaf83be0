/-! The model's step, back -/
/-- the model's numbers -/
def MR (I : Nat → Nat → Int32) (m p : Nat) [NeZero p] (D : Nat → Nat → Nat) (h n : Nat) (kd : Nat → Nat) (tl : Nat → Nat → Int32) (V : Nat → Nat → Nat → Nat) (g : Nat → Nat) : Prop := MoA I m p h D ∧ MoT I m n kd ∧ (∀ t, t < n → I (m + 1) t = nI (kd t) ∧ I (m + 2) t = tl t 0 ∧ I (m + 3) t = tl t 1 ∧ I (m + 4) t = tl t 2 ∧ I (m + 6) t = nI (g t)) ∧ HVm I m p h n (fun s => srt (kd s)) V ∧ ∀ q, q < 60 → I (m + 6) q = 0 ∨ I (m + 6) q = 1
/-- what the model's own calls leave as it is -/
def FrL (I I1 : Nat → Nat → Int32) (m : Nat) : Prop := (∀ a, a < m → I1 a = I a) ∧ I1 m 2 = I m 2 ∧ I1 m 21 = I m 21
theorem agJ_raw {n k : Nat} {kd : Nat → Nat} {a b c : Int32} (hn : n ≤ 60) (hk : k < 14) (h : AgJ n kd k a b c) : Told kd n k a b c := by
  rcases (show k = 0 ∨ k = 1 ∨ k = 2 ∨ k = 3 ∨ k = 4 ∨ k = 5 ∨ k = 6 ∨ k = 7 ∨ k = 8 ∨ k = 9 ∨ k = 10 ∨ k = 11 ∨ k = 12 ∨ k = 13 by omega) with rfl | rfl | rfl | rfl | rfl | rfl | rfl | rfl | rfl | rfl | rfl | rfl | rfl | rfl
  · exact ⟨fun q => absurd rfl q, fun q => absurd rfl q, fun q => absurd q (by decide), Or.inl rfl⟩
  · obtain ⟨h1, h2⟩ := h
    have e1 := isT_c hn h1
    have e2 := isT_c hn h2
    exact ⟨fun _ => e1.1, fun _ _ => e2.1, fun q => absurd q (by decide), Or.inr (Or.inl ⟨by decide, e1.2, e2.2⟩)⟩
  · obtain ⟨h1, h2⟩ := h
    have e1 := isT_c hn h1
    have e2 := isT_c hn h2
    exact ⟨fun _ => e1.1, fun _ _ => e2.1, fun q => absurd q (by decide), Or.inr (Or.inl ⟨by decide, e1.2, e2.2⟩)⟩
  · obtain ⟨h1, h2⟩ := h
    have e1 := isT_c hn h1
    have e2 := isT_c hn h2
    exact ⟨fun _ => e1.1, fun _ _ => e2.1, fun q => absurd q (by decide), Or.inr (Or.inl ⟨by decide, e1.2, e2.2⟩)⟩
  · obtain ⟨h1, h2⟩ := h
    have e1 := isT_c hn h1
    have e2 := isT_c hn h2
    exact ⟨fun _ => e1.1, fun _ _ => e2.1, fun q => absurd q (by decide), Or.inr (Or.inl ⟨by decide, e1.2, e2.2⟩)⟩
  · have e1 := isT_c hn h
    exact ⟨fun _ => e1.1, fun _ q => absurd rfl q, fun q => absurd q (by decide), Or.inr (Or.inr (Or.inl ⟨rfl, e1.2⟩))⟩
  · obtain ⟨h1, h2⟩ := h
    have e1 := isT_c hn h1
    have e2 := isT_c hn h2
    exact ⟨fun _ => e1.1, fun _ _ => e2.1, fun q => absurd q (by decide), Or.inr (Or.inl ⟨by decide, e1.2, e2.2⟩)⟩
  · obtain ⟨h1, h2⟩ := h
    have e1 := isT_c hn h1
    have e2 := isT_c hn h2
    exact ⟨fun _ => e1.1, fun _ _ => e2.1, fun q => absurd q (by decide), Or.inr (Or.inr (Or.inr (Or.inl ⟨by decide, e1.2, e2.2⟩)))⟩
  · obtain ⟨h1, h2⟩ := h
    have e1 := isT_c hn h1
    have e2 := isT_c hn h2
    exact ⟨fun _ => e1.1, fun _ _ => e2.1, fun q => absurd q (by decide), Or.inr (Or.inr (Or.inr (Or.inl ⟨by decide, e1.2, e2.2⟩)))⟩
  · obtain ⟨h1, h2, h3⟩ := h
    have e1 := isT_c hn h1
    have e2 := isT_c hn h2
    have e3 := isT_c hn h3
    exact ⟨fun _ => e1.1, fun _ _ => e2.1, fun _ => e3.1, Or.inr (Or.inr (Or.inr (Or.inr (Or.inl ⟨rfl, e1.2, e2.2, e3.2⟩))))⟩
  · obtain ⟨h1, h2⟩ := h
    have e1 := isT_c hn h1
    have e2 := isT_c hn h2
    exact ⟨fun _ => e1.1, fun _ _ => e2.1, fun q => absurd q (by decide), Or.inr (Or.inr (Or.inr (Or.inr (Or.inr (Or.inl ⟨by decide, e1.2, e2.2⟩)))))⟩
  · obtain ⟨h1, h2⟩ := h
    have e1 := isT_c hn h1
    have e2 := isT_c hn h2
    exact ⟨fun _ => e1.1, fun _ _ => e2.1, fun q => absurd q (by decide), Or.inr (Or.inr (Or.inr (Or.inr (Or.inr (Or.inl ⟨by decide, e1.2, e2.2⟩)))))⟩
  · obtain ⟨h1, h2, h3⟩ := h
    have e1 : a = nI (clp a) ∧ clp a < n ∧ (srt (kd (clp a)) = 2 ∨ srt (kd (clp a)) = 3) := h1.elim (fun q => ⟨(isT_c hn q).1, (isT_c hn q).2.1, Or.inl (isT_c hn q).2.2⟩) (fun q => ⟨(isT_c hn q).1, (isT_c hn q).2.1, Or.inr (isT_c hn q).2.2⟩)
    have e2 : b = nI (clp b) ∧ clp b < n ∧ (srt (kd (clp b)) = 2 ∨ srt (kd (clp b)) = 3) := h2.elim (fun q => ⟨(isT_c hn q).1, (isT_c hn q).2.1, Or.inl (isT_c hn q).2.2⟩) (fun q => ⟨(isT_c hn q).1, (isT_c hn q).2.1, Or.inr (isT_c hn q).2.2⟩)
    have e3 := inL_c (by decide) h3
    exact ⟨fun _ => e1.1, fun _ _ => e2.1, fun _ => e3.1, Or.inr (Or.inr (Or.inr (Or.inr (Or.inr (Or.inr (Or.inl ⟨rfl, e1.2, e2.2, e3.2⟩))))))⟩
  · have e : a = nI (clp a) ∧ (clp a < n ∧ (srt (kd (clp a)) = 1 ∨ srt (kd (clp a)) = 2 ∨ srt (kd (clp a)) = 3)) ∧ b = nI (clp b) ∧ clp b < szs (srt (kd (clp a))) := by
      rcases h with ⟨h1, h2⟩ | ⟨h1 | h1, h2⟩
      · have e1 := isT_c hn h1
        have e2 := inL_c (by decide) h2
        exact ⟨e1.1, ⟨e1.2.1, Or.inl e1.2.2⟩, e2.1, by rw [e1.2.2]; exact e2.2⟩
      · have e1 := isT_c hn h1
        have e2 := inL_c (by decide) h2
        exact ⟨e1.1, ⟨e1.2.1, Or.inr (Or.inl e1.2.2)⟩, e2.1, by rw [e1.2.2]; exact e2.2⟩
      · have e1 := isT_c hn h1
        have e2 := inL_c (by decide) h2
        exact ⟨e1.1, ⟨e1.2.1, Or.inr (Or.inr e1.2.2)⟩, e2.1, by rw [e1.2.2]; exact e2.2⟩
    exact ⟨fun _ => e.1, fun _ _ => e.2.2.1, fun q => absurd q (by decide), Or.inr (Or.inr (Or.inr (Or.inr (Or.inr (Or.inr (Or.inr ⟨rfl, e.2.1, e.2.2.2⟩))))))⟩
theorem nn_k : ∀ k, k < 14 → ((k = 0 ∨ k = 5) → tls (3 * k + 1) = 0 ∧ tls (3 * k + 2) = 0) ∧ ((k = 9 ∨ k = 12) → tls (3 * k + 1) ≠ 0 ∧ tls (3 * k + 2) ≠ 0) ∧ (¬ (k = 0 ∨ k = 5) → ¬ (k = 9 ∨ k = 12) → tls (3 * k + 1) ≠ 0 ∧ tls (3 * k + 2) = 0) := by decide
theorem Rf.putc {K : Ka} {m c q qn d9 k : Nat} {M : Me} {I G : Nat → Nat → Int32} {J : Nat → Nat → Int64} {code : List Instr} {L : Lf} {st : List Value} {x : Int32} {post : Option Value → Me → Prop} (hc : c ≠ m + 11) (hq : q = qn) (h9 : Rf K d9 code k L st (St M (rg (u2 I c qn x) m G) J) post) : Rf K d9 code k L st (wI (St M (rg I m G) J) (u2 (mI (St M (rg I m G) J)) c q x)) post := by
  rw [← rg_u2 hc, ← hq] at h9
  exact h9
section Ms
variable {K : Ka} {d m p h n k : Nat} {M : Me} {I : Nat → Nat → Int32} {J : Nat → Nat → Int64} {D : Nat → Nat → Nat} {kd : Nat → Nat} {tl : Nat → Nat → Int32} {V : Nat → Nat → Nat → Nat} {g : Nat → Nat} {a b c z : Int32}
theorem mkF_tld [NeZero p] (hk : k < 14) : mkF p D h V (fun s => srt (kd s)) k a (clp a) (clp b) (clp c) = stF p D h V kd k a (tld k 1 b) (tld k 2 c) := by
  rcases (show k = 0 ∨ k = 1 ∨ k = 2 ∨ k = 3 ∨ k = 4 ∨ k = 5 ∨ k = 6 ∨ k = 7 ∨ k = 8 ∨ k = 9 ∨ k = 10 ∨ k = 11 ∨ k = 12 ∨ k = 13 by omega) with rfl | rfl | rfl | rfl | rfl | rfl | rfl | rfl | rfl | rfl | rfl | rfl | rfl | rfl <;> rfl
theorem FrX.l {I1 : Nat → Nat → Int32} (hf : FrX I I1 m) : FrL I I1 m := ⟨fun q hq => hf.1 q (by omega) (by omega) (by omega) (by omega), hf.2 2 (by decide) (by decide) (by decide), hf.2 21 (by decide) (by decide) (by decide)⟩
theorem rg_l {G : Nat → Nat → Int32} {q : Nat} (h : q ≠ m + 11) : rg I m G q = I q := rg_ne h
theorem MoA.rg [NeZero p] {G : Nat → Nat → Int32} (hA : MoA I m p h D) : MoA (rg I m G) m p h D := hA.keep (by rw [rg_m]) (by rw [rg_m]) (rg_ne (by omega)) (rg_ne (by omega))
set_option maxHeartbeats 4000000 in
theorem m_step [NeZero p] {d' : Nat} {post : Option Value → Me → Prop} (hM : MoM M m) (hR : MR I m p D h n kd tl V g) (hA : AS p D h n kd tl V g) (hd : d + 14 ≤ d')
    (cb : (¬ ∃ k, k < 14 ∧ z = nI k ∧ AgJ n kd k a b c) → post (some (.int (Int32.ofInt (-1)))) (St M I J))
    (cf : ∀ k, k < 14 → z = nI k → AgJ n kd k a b c → n = 60 → post (some (.int (Int32.ofInt (-6)))) (St M I J))
    (cr : ∀ k, k < 14 → z = nI k → AgJ n kd k a b c → n < 60 → ¬ (stF p D h V kd k a (tld k 1 b) (tld k 2 c)).1 = Int32.ofInt 0 → ∀ I1 J1, MR I1 m p D h n kd tl V g → FrL I I1 m → post (some (.int (stF p D h V kd k a (tld k 1 b) (tld k 2 c)).1)) (St M I1 J1))
    (cs : ∀ k, k < 14 → z = nI k → AgJ n kd k a b c → n < 60 → (stF p D h V kd k a (tld k 1 b) (tld k 2 c)).1 = Int32.ofInt 0 → ∀ I1 J1, MR I1 m p (stF p D h V kd k a (tld k 1 b) (tld k 2 c)).2.1 (stF p D h V kd k a (tld k 1 b) (tld k 2 c)).2.2.1 (n + 1) (ufn kd n k) (ufn tl n (t3 a (tld k 1 b) (tld k 2 c))) (ufn V n (stF p D h V kd k a (tld k 1 b) (tld k 2 c)).2.2.2) (ufn g n ((stF p D h V kd k a (tld k 1 b) (tld k 2 c)).2.2.1 - h)) → FrL I I1 m → post (some (.int (nI n))) (St M I1 J1)) : Ok K d' 139 [.ref m, .int z, .int a, .int b, .int c] (St M I J) post := by
  refine Ok.up (d := d + 14) (post := post) ?_ hd (fun _ _ h => h)
  obtain ⟨mA, mT, mS, mV, mB⟩ := hR
  obtain ⟨t1, t2, t3'⟩ := mT
  refine Ok.go (e := me_139) rfl rfl (Nat.le_of_ble_eq_true rfl) hM.c ?_
  refine Rf.go 100 [48] ?_
  refine m_in (d := d) (by omega) (fun q => ?_) (fun q => ?_)
  · obtain ⟨k, hk, rfl⟩ := (in_iff (hi := 13) (by decide)).mp q
    have hno : ¬ AgJ n kd k a b c → ¬ ∃ k', k' < 14 ∧ nI k = nI k' ∧ AgJ n kd k' a b c := by
      rintro w ⟨k', h1, h2, h3⟩
      have : k = k' := (nI_eq (by omega) (by omega)).mp h2
      rw [← this] at h3
      exact w h3
    refine And.intro (fun q => absurd q (by decide)) (fun _ => ?_)
    refine m_mayName (d := d) (n := n) (kd := kd) hM ⟨t1, t2, t3'⟩ rfl hk (by omega) (fun hAJ => ?_) (fun hAJ => ?_)
    · refine And.intro (fun _ => ?_) (fun q => absurd (by decide) q)
      refine And.intro hM.c ?_
      refine And.intro (fun q => ?_) (fun q => ?_)
      · have q : ¬ I m 3 = Int32.ofInt 60 := of_decide_eq_true q
        rw [t1] at q
        have hn : n < 60 := by
          have : n ≠ 60 := fun w => q (by rw [w]; rfl)
          omega
        have hT := agJ_raw t2 hk hAJ
        have mk := makeM_ok (K := K) (d := d) (J := J) (I := I) (G := fun r j => I (m + 11) (8 * r + j)) (V := V) (D := D) (p := p) (h := h) (t := n) (k := k) (a := clp a) (b := clp b) (c := clp c) (zk := nI k) (z := a) (w1 := b) (w2 := c) (kd := kd) (d' := d + 13) (post := fun r M1 => ∃ I1 G1 J1, OutM I I1 G1 m p h (szs (srt k)) (nI (srt k)) (mkF p D h V (fun s => srt (kd s)) k a (clp a) (clp b) (clp c)) ∧ r = some (.int (mkF p D h V (fun s => srt (kd s)) k a (clp a) (clp b) (clp c)).1) ∧ M1 = St M (rg I1 m G1) J1) hM mA (by omega) mV (fun s hs => (t3' s hs).1) hA.2.1 rfl hT.1 hT.2.1 hT.2.2.1 hT.2.2.2 (Nat.le_refl _) (fun I1 G1 J1 ho => ⟨I1, G1, J1, ho, rfl, rfl⟩)
        rw [rg_self, mkF_tld hk] at mk
        refine mk.up (Nat.le_refl _) ?_
        rintro r M1 ⟨I1, G1, J1, ho, rfl, rfl⟩
        have hRz : RzOk p D h (szs (srt k)) (stF p D h V kd k a (tld k 1 b) (tld k 2 c)) := mkF_ok (agJ_told t2 hk hAJ).2.2.2
        have cr := cr k hk rfl hAJ hn
        have cs := cs k hk rfl hAJ hn
        generalize stF p D h V kd k a (tld k 1 b) (tld k 2 c) = R at ho hRz cr cs
        obtain ⟨o1, o2, o3, o4⟩ := ho
        have fl := o4.l
        refine And.intro (fun q => ?_) (fun q => ?_)
        · have h0 : R.1 = Int32.ofInt 0 := of_decide_eq_true q
          obtain ⟨ov, o16⟩ := o2 h0
          have hg1 : R.2.2.1 - h ≤ 1 := by rcases hRz.2.2 with w | w <;> omega
          have i3 : I1 m 3 = nI n := (o4.2 3 (by decide) (by decide) (by decide)).trans t1
          have ic : ∀ q, m + 1 ≤ q → q ≤ m + 7 → I1 q = I q := fun q h1 h2 => o4.1 q (by omega) (by omega) (by omega) (by omega)
          have tail : ∀ nn : Nat, nn < 4 → (nn ≤ 1 ↔ tls (3 * k + 1) = 0) → (nn ≤ 2 ↔ tls (3 * k + 2) = 0) → Rf K (d + 13) mc_139 48 (lk [(0, .ref m), (1, .int (nI k)), (2, .int a), (3, .int b), (4, .int c)]) [.int (nI nn)] (St M (rg I1 m G1) J1) (fun r M1 => rok me_139.2.2.2.1 r = true ∧ post r M1) := by
            intro nn hnn q1 q2
            have LKs : True := trivial
            have hn3 : ∀ (I9 : Nat → Nat → Int32), I9 m 3 = nI n → (rg I9 m G1 m 3).toNatClampNeg = n ∧ inb (rg I9 m G1 m 3) 60 = true := fun I9 e => by
              rw [rg_m, e]
              exact ⟨nI_clamp (by omega), inb_n hn (by omega)⟩
            have a60 : ∀ q, m + 1 ≤ q → q ≤ m + 5 → isC M q 10 = true ∧ (mH M q).2 = 60 := fun q h1 h2 => hM.a60 ⟨h1, h2⟩
            -- kind
            refine Rf.go 100 [55] ?_
            refine And.intro hM.c ⟨m + 1, hM.r4, ?_⟩
            refine And.intro hM.c ?_
            refine And.intro ⟨(a60 (m + 1) (by omega) (by omega)).1, by show inb (rg I1 m G1 m 3) (mH M (m + 1)).2 = true; rw [(a60 (m + 1) (by omega) (by omega)).2]; exact (hn3 I1 i3).2⟩ ?_
            refine Rf.putc (by omega) (hn3 I1 i3).1 ?_
            have j3 : u2 I1 (m + 1) n (nI k) m 3 = nI n := by rw [u2_ne (by omega)]; exact i3
            generalize hIa : u2 I1 (m + 1) n (nI k) = Ia at j3
            refine Rf.go 100 [61] ?_
            refine And.intro hM.c ⟨m + 2, hM.r5, ?_⟩
            refine And.intro hM.c ?_
            refine And.intro ⟨(a60 (m + 2) (by omega) (by omega)).1, by show inb (rg Ia m G1 m 3) (mH M (m + 2)).2 = true; rw [(a60 (m + 2) (by omega) (by omega)).2]; exact (hn3 Ia j3).2⟩ ?_
            refine Rf.putc (by omega) (hn3 Ia j3).1 ?_
            have k3 : u2 Ia (m + 2) n a m 3 = nI n := by rw [u2_ne (by omega)]; exact j3
            generalize hIb : u2 Ia (m + 2) n a = Ib at k3
            -- third and on, for the second told
            have thr : ∀ y : Int32, y = tld k 1 b → Rf K (d + 13) mc_139 72 (lk [(6, .int (nI nn)), (0, .ref m), (4, .int c)]) [] (St M (rg (u2 Ib (m + 3) n y) m G1) J1) (fun r M1 => rok me_139.2.2.2.1 r = true ∧ post r M1) := by
              intro y hy
              have l3 : u2 Ib (m + 3) n y m 3 = nI n := by rw [u2_ne (by omega)]; exact k3
              generalize hIc : u2 Ib (m + 3) n y = Ic at l3
              have fin : ∀ y2 : Int32, y2 = tld k 2 c → Rf K (d + 13) mc_139 83 (lk [(0, .ref m)]) [] (St M (rg (u2 Ic (m + 4) n y2) m G1) J1) (fun r M1 => rok me_139.2.2.2.1 r = true ∧ post r M1) := by
                intro y2 hy2
                have m3 : u2 Ic (m + 4) n y2 m 3 = nI n := by rw [u2_ne (by omega)]; exact l3
                generalize hId : u2 Ic (m + 4) n y2 = Id at m3
                have dm : ∀ q, (q < m + 1 ∨ m + 5 ≤ q) → Id q = I1 q := fun q hq => by rw [← hId, u2_ne (by omega), ← hIc, u2_ne (by omega), ← hIb, u2_ne (by omega), ← hIa, u2_ne (by omega)]
                have d1 : ∀ t, Id (m + 1) t = if t = n then nI k else I1 (m + 1) t := fun t => by rw [← hId, u2_ne (by omega), ← hIc, u2_ne (by omega), ← hIb, u2_ne (by omega), ← hIa, u2_at]
                have d2 : ∀ t, Id (m + 2) t = if t = n then a else I1 (m + 2) t := fun t => by rw [← hId, u2_ne (by omega), ← hIc, u2_ne (by omega), ← hIb, u2_at, ← hIa, u2_ne (by omega)]
                have d3 : ∀ t, Id (m + 3) t = if t = n then tld k 1 b else I1 (m + 3) t := fun t => by rw [← hId, u2_ne (by omega), ← hIc, u2_at, ← hIb, u2_ne (by omega), ← hIa, u2_ne (by omega), hy]
                have d4 : ∀ t, Id (m + 4) t = if t = n then tld k 2 c else I1 (m + 4) t := fun t => by rw [← hId, u2_at, ← hIc, u2_ne (by omega), ← hIb, u2_ne (by omega), ← hIa, u2_ne (by omega), hy2]
                have e17 : Id m 17 = nI (R.2.2.1 - h) := by rw [dm m (by omega)]; exact o3
                refine Rf.go 100 [] ?_
                refine And.intro hM.c ?_
                refine m_lay (d := d) (t := n) (so := srt k) hM (by show rg Id m G1 m 3 = nI n; rw [rg_m]; exact m3) hn (by rw [dm m (by omega)]; exact o16) (srt_lt k hk) (by rw [e17]; rcases (show R.2.2.1 - h = 0 ∨ R.2.2.1 - h = 1 by omega) with w | w <;> rw [w] <;> decide) (by omega) (fun Ie y5 y6 ys yv yq yc => ?_)
                have em : Ie m = I1 m := (yc m (by omega) (by omega) (by omega)).trans (dm m (by omega))
                have e3 : Ie m 3 = nI n := by rw [em]; exact i3
                refine And.intro rfl ?_
                refine And.intro hM.c ?_
                refine And.intro hM.c ?_
                have f3 : rg Ie m G1 m 3 + Int32.ofInt 1 = nI (n + 1) := by rw [rg_m, e3]; exact nI_1 n
                have ew : u2 (rg Ie m G1) m 3 (rg Ie m G1 m 3 + Int32.ofInt 1) = rg (u2 Ie m 3 (nI (n + 1))) m G1 := by rw [f3, rg_u2 (by omega)]
                refine And.intro hM.c ?_
                have un : ∀ q, q ≠ m → u2 Ie m 3 (nI (n + 1)) q = Ie q := fun q hq => u2_ne hq
                have um : ∀ q, q ≠ 3 → u2 Ie m 3 (nI (n + 1)) m q = I1 m q := fun q hq => by rw [u2_at, if_neg hq, em]
                have rq : ∀ q, q ≠ m → q ≠ m + 11 → rg (u2 Ie m 3 (nI (n + 1))) m G1 q = Ie q := fun q h1 h2 => (rg_ne h2).trans (un q h1)
                have hfin := cs h0 (rg (u2 Ie m 3 (nI (n + 1))) m G1) J1 ⟨?_, ⟨?_, by omega, fun s hs => ?_⟩, fun t ht => ?_, fun s hs i hi => ?_, fun q hq => ?_⟩ ⟨fun q hq => ?_, ?_, ?_⟩
                · have er : u2 (rg Ie m G1) m 3 (rg Ie m G1 m 3 + Int32.ofInt 1) m 3 - Int32.ofInt 1 = nI n := by
                    rw [u2_at, if_pos rfl, f3]
                    exact nI_pred n
                  rw [← ew, ← er] at hfin
                  exact ⟨rfl, hfin⟩
                · refine MoA.rg (o1.keep (um 0 (by decide)) (um 1 (by decide)) ?_ ?_)
                  · rw [un _ (by omega), yc _ (by omega) (by omega) (by omega), dm _ (by omega)]
                  · rw [un _ (by omega), yc _ (by omega) (by omega) (by omega), dm _ (by omega)]
                · rw [rg_m, u2_at, if_pos rfl]
                · rw [rq _ (by omega) (by omega)]
                  by_cases e : s = n
                  · rw [e, ufn_e]
                    exact ⟨y5, hk⟩
                  · rw [ufn_n e, (ys s e).1, dm _ (by omega), ic _ (by omega) (by omega)]
                    exact t3' s (by omega)
                · rw [rq _ (by omega) (by omega), rq _ (by omega) (by omega), rq _ (by omega) (by omega), rq _ (by omega) (by omega), rq _ (by omega) (by omega), yc (m + 1) (by omega) (by omega) (by omega), yc (m + 2) (by omega) (by omega) (by omega), yc (m + 3) (by omega) (by omega) (by omega), yc (m + 4) (by omega) (by omega) (by omega), d1, d2, d3, d4]
                  by_cases e : t = n
                  · rw [e, if_pos rfl, if_pos rfl, if_pos rfl, if_pos rfl, ufn_e, ufn_e, ufn_e, y6, e17]
                    exact ⟨rfl, rfl, rfl, rfl, rfl⟩
                  · rw [if_neg e, if_neg e, if_neg e, if_neg e, ufn_n e, ufn_n e, ufn_n e, (ys t e).2, dm _ (by omega), ic _ (by omega) (by omega), ic _ (by omega) (by omega), ic _ (by omega) (by omega), ic _ (by omega) (by omega), ic _ (by omega) (by omega)]
                    exact mS t (by omega)
                · rw [rq _ (by omega) (by omega)]
                  by_cases e : s = n
                  · subst e
                    rw [ufn_e]
                    refine ⟨fun j hj => ?_, hRz.1 i, fun hz => ?_⟩
                    · rw [yv i hi j hj]
                      by_cases w : i < szs (srt k)
                      · rw [if_pos w]
                        exact ov i w j hj
                      · rw [if_neg w, hRz.2.1 i (by omega) hi]
                        rfl
                    · have hz : szs (srt (ufn kd s k s)) ≤ i := hz
                      rw [ufn_e] at hz
                      exact hRz.2.1 i hz hi
                  · rw [ufn_n e]
                    obtain ⟨q1, q2, q3⟩ := mV s (by omega) i hi
                    refine ⟨fun j hj => ?_, q2.up (by rcases hRz.2.2 with w | w <;> omega), fun hz => ?_⟩
                    · rw [yq _ (by omega), dm _ (by omega), ic _ (by omega) (by omega)]
                      exact q1 j hj
                    · have hz : szs (srt (ufn kd n k s)) ≤ i := hz
                      rw [ufn_n e] at hz
                      exact q3 hz
                · rw [rq _ (by omega) (by omega)]
                  by_cases e : q = n
                  · rw [e, y6, e17]
                    rcases (show R.2.2.1 - h = 0 ∨ R.2.2.1 - h = 1 by omega) with w | w <;> rw [w] <;> decide
                  · rw [(ys q e).2, dm _ (by omega), ic _ (by omega) (by omega)]
                    exact mB q hq
                · rw [rq _ (by omega) (by omega), yc _ (by omega) (by omega) (by omega), dm _ (by omega)]
                  exact fl.1 q hq
                · rw [rg_m, um 2 (by decide)]; exact fl.2.1
                · rw [rg_m, um 21 (by decide)]; exact fl.2.2
              refine Rf.go 100 [83] ?_
              refine And.intro hM.c ⟨m + 4, hM.r7, ?_⟩
              refine And.intro hM.c ?_
              have ib : inb (rg Ic m G1 m 3) (mH M (m + 4)).2 = true := by rw [(a60 (m + 4) (by omega) (by omega)).2]; exact (hn3 Ic l3).2
              refine And.intro (fun w => ?_) (fun w => ?_)
              · have w : nI nn ≤ Int32.ofInt 2 := of_decide_eq_true w
                have w := q2.mp ((nI_leI (b := 2) (by omega) (by decide)).mp w)
                refine And.intro ⟨(a60 (m + 4) (by omega) (by omega)).1, ib⟩ ?_
                refine Rf.putc (by omega) (hn3 Ic l3).1 ?_
                exact Rf.weak [(0, .ref m)] ⟨rfl, trivial⟩ (fin _ (if_pos w).symm)
              · have w : ¬ nI nn ≤ Int32.ofInt 2 := fun v => w (decide_eq_true v)
                have w : ¬ tls (3 * k + 2) = 0 := fun v => w (nI_le (b := 2) (q2.mpr v) (by decide))
                refine And.intro ⟨(a60 (m + 4) (by omega) (by omega)).1, ib⟩ ?_
                refine Rf.putc (by omega) (hn3 Ic l3).1 ?_
                exact Rf.weak [(0, .ref m)] ⟨rfl, trivial⟩ (fin _ (if_neg w).symm)
            refine Rf.go 100 [72] ?_
            refine And.intro hM.c ⟨m + 3, hM.r6, ?_⟩
            refine And.intro hM.c ?_
            have ib : inb (rg Ib m G1 m 3) (mH M (m + 3)).2 = true := by rw [(a60 (m + 3) (by omega) (by omega)).2]; exact (hn3 Ib k3).2
            refine And.intro (fun w => ?_) (fun w => ?_)
            · have w : nI nn ≤ Int32.ofInt 1 := of_decide_eq_true w
              have w := q1.mp ((nI_leI (b := 1) (by omega) (by decide)).mp w)
              refine And.intro ⟨(a60 (m + 3) (by omega) (by omega)).1, ib⟩ ?_
              refine Rf.putc (by omega) (hn3 Ib k3).1 ?_
              exact Rf.weak [(6, .int (nI nn)), (0, .ref m), (4, .int c)] ⟨rfl, rfl, rfl, trivial⟩ (thr _ (if_pos w).symm)
            · have w : ¬ nI nn ≤ Int32.ofInt 1 := fun v => w (decide_eq_true v)
              have w : ¬ tls (3 * k + 1) = 0 := fun v => w (nI_le (b := 1) (q1.mpr v) (by decide))
              refine And.intro ⟨(a60 (m + 3) (by omega) (by omega)).1, ib⟩ ?_
              refine Rf.putc (by omega) (hn3 Ib k3).1 ?_
              exact Rf.weak [(6, .int (nI nn)), (0, .ref m), (4, .int c)] ⟨rfl, rfl, rfl, trivial⟩ (thr _ (if_neg w).symm)
          obtain ⟨n1, n2, n3⟩ := nn_k k hk
          have kc : ∀ j, j < 14 → (cmpI .eq (nI k) (nI j) = true ↔ k = j) := fun j hj => ⟨fun w => (nI_eq (by omega) (by omega)).mp (of_decide_eq_true w), fun w => decide_eq_true (by rw [w])⟩
          have kn : ∀ j, j < 14 → (cmpI .ne (nI k) (nI j) = true ↔ k ≠ j) := fun j hj => ⟨fun w v => of_decide_eq_true w (by rw [v]), fun w => decide_eq_true (fun v => w ((nI_eq (by omega) (by omega)).mp v))⟩
          have go1 : (k = 0 ∨ k = 5) → Rf K (d + 13) mc_139 48 (lk [(0, .ref m), (1, .int (nI k)), (2, .int a), (3, .int b), (4, .int c)]) [.int (nI 1)] (St M (rg I1 m G1) J1) (fun r M1 => rok me_139.2.2.2.1 r = true ∧ post r M1) := fun w => tail 1 (by decide) (iff_of_true (by decide) (n1 w).1) (iff_of_true (by decide) (n1 w).2)
          have go3 : (k = 9 ∨ k = 12) → Rf K (d + 13) mc_139 48 (lk [(0, .ref m), (1, .int (nI k)), (2, .int a), (3, .int b), (4, .int c)]) [.int (nI 3)] (St M (rg I1 m G1) J1) (fun r M1 => rok me_139.2.2.2.1 r = true ∧ post r M1) := fun w => tail 3 (by decide) (iff_of_false (by decide) (n2 w).1) (iff_of_false (by decide) (n2 w).2)
          have go2 : ¬ (k = 0 ∨ k = 5) → ¬ (k = 9 ∨ k = 12) → Rf K (d + 13) mc_139 48 (lk [(0, .ref m), (1, .int (nI k)), (2, .int a), (3, .int b), (4, .int c)]) [.int (nI 2)] (St M (rg I1 m G1) J1) (fun r M1 => rok me_139.2.2.2.1 r = true ∧ post r M1) := fun w1 w2 => tail 2 (by decide) (iff_of_false (by decide) (n3 w1 w2).1) (iff_of_true (by decide) (n3 w1 w2).2)
          refine And.intro (fun w => ?_) (fun w => ?_)
          · have w := (kc 0 (by decide)).mp w
            exact Rf.weak [(0, .ref m), (1, .int (nI k)), (2, .int a), (3, .int b), (4, .int c)] ⟨rfl, rfl, rfl, rfl, rfl, trivial⟩ (go1 (Or.inl w))
          · have w0 : k ≠ 0 := fun v => w ((kc 0 (by decide)).mpr v)
            refine And.intro (fun w => ?_) (fun w => ?_)
            · have w5 := (kn 5 (by decide)).mp w
              refine And.intro (fun w => ?_) (fun w => ?_)
              · have w := (kc 9 (by decide)).mp w
                exact Rf.weak [(0, .ref m), (1, .int (nI k)), (2, .int a), (3, .int b), (4, .int c)] ⟨rfl, rfl, rfl, rfl, rfl, trivial⟩ (go3 (Or.inl w))
              · have w9 : k ≠ 9 := fun v => w ((kc 9 (by decide)).mpr v)
                refine And.intro (fun w => ?_) (fun w => ?_)
                · have w12 := (kn 12 (by decide)).mp w
                  exact Rf.weak [(0, .ref m), (1, .int (nI k)), (2, .int a), (3, .int b), (4, .int c)] ⟨rfl, rfl, rfl, rfl, rfl, trivial⟩ (go2 (fun v => v.elim w0 w5) (fun v => v.elim w9 w12))
                · have w12 : k = 12 := Classical.not_not.mp (fun v => w ((kn 12 (by decide)).mpr v))
                  exact Rf.weak [(0, .ref m), (1, .int (nI k)), (2, .int a), (3, .int b), (4, .int c)] ⟨rfl, rfl, rfl, rfl, rfl, trivial⟩ (go3 (Or.inr w12))
            · have w5 : k = 5 := Classical.not_not.mp (fun v => w ((kn 5 (by decide)).mpr v))
              exact Rf.weak [(0, .ref m), (1, .int (nI k)), (2, .int a), (3, .int b), (4, .int c)] ⟨rfl, rfl, rfl, rfl, rfl, trivial⟩ (go1 (Or.inr w5))
        · have h0 : ¬ R.1 = Int32.ofInt 0 := fun w => q (decide_eq_true w)
          have hRD : MoA I1 m p h D := by
            rcases hRz.2.2 with w | w
            · rw [w.1, w.2] at o1
              exact o1
            · exact absurd w.1 h0
          have iq : ∀ q, m < q → q ≤ m + 7 → rg I1 m G1 q = I q := fun q h1 h2 => (rg_ne (by omega)).trans (o4.1 q (by omega) (by omega) (by omega) (by omega))
          refine ⟨rfl, cr h0 (rg I1 m G1) J1 ⟨hRD.rg, ⟨by rw [rg_m]; exact (o4.2 3 (by decide) (by decide) (by decide)).trans t1, t2, fun s hs => by rw [iq _ (by omega) (by omega)]; exact t3' s hs⟩, fun t ht => ?_, fun s hs i hi => ⟨fun j hj => ?_, (mV s hs i hi).2⟩, fun q hq => by rw [iq _ (by omega) (by omega)]; exact mB q hq⟩ ⟨fun q hq => (rg_ne (by omega)).trans (fl.1 q hq), by rw [rg_m]; exact fl.2.1, by rw [rg_m]; exact fl.2.2⟩⟩
          · rw [iq _ (by omega) (by omega), iq _ (by omega) (by omega), iq _ (by omega) (by omega), iq _ (by omega) (by omega), iq _ (by omega) (by omega)]
            exact mS t ht
          · rw [iq _ (by omega) (by omega)]
            exact (mV s hs i hi).1 j hj
      · have q : I m 3 = Int32.ofInt 60 := Classical.not_not.mp (fun w => q (decide_eq_true w))
        rw [t1] at q
        have hn : n = 60 := (nI_eq (b := 60) (by omega) (by omega)).mp q
        exact ⟨rfl, cf k hk rfl hAJ hn⟩
    · refine And.intro (fun q => absurd q (by decide)) (fun _ => ?_)
      exact ⟨rfl, cb (hno hAJ)⟩
  · refine And.intro (fun _ => ?_) (fun q => absurd (by decide) q)
    refine ⟨rfl, cb ?_⟩
    rintro ⟨k, h1, h2, -⟩
    exact q ((in_iff (hi := 13) (by decide)).mpr ⟨k, h1, h2⟩)
end Ms
