/-! Steps.allow, Steps.write -/
def tld (k i : Nat) (x : Int32) : Int32 := if tls (3 * k + i) = 0 then Int32.ofInt 0 else x
theorem tls_lt : ∀ q, q < 42 → tls q < 33 := by decide
section St3
variable {K : Ka} {d S n t i k : Nat} {M : Me} {I : Nat → Nat → Int32} {J : Nat → Nat → Int64} {kd : Nat → Nat} {a b c x z w : Int32}
theorem k3v (hK : Kst K) {q : Nat} {y : Int32} (hy : y = nI q) (hq : q < 42) : inb y (K 3).1 = true ∧ (K 3).2 y.toNatClampNeg = nI (tls q) := by
  subst hy
  exact ⟨by rw [hK.2.2.2.1]; exact inb_n hq (by omega), by rw [nI_clamp (by omega)]; exact hK.2.2.2.2 q hq⟩
theorem ix3 {k : Nat} : Int32.ofInt 3 * nI k = nI (3 * k) := by rw [show Int32.ofInt 3 = nI 3 from rfl, pk_mul]
theorem ix31 {k : Nat} : Int32.ofInt 3 * nI k + Int32.ofInt 1 = nI (3 * k + 1) := by rw [ix3]; exact nI_add _ 1
theorem ix32 {k : Nat} : Int32.ofInt 3 * nI k + Int32.ofInt 2 = nI (3 * k + 2) := by rw [ix3]; exact nI_add _ 2
set_option maxHeartbeats 1000000 in
theorem s_allow {d' : Nat} {post : Option Value → Me → Prop} (hK : Kst K) (hM : StM M S) (hn : I S 0 = nI n) (hn6 : n ≤ 60) (hkd : ∀ s, s < n → I (S + 1) s = nI (kd s) ∧ kd s < 14) (hd : d + 4 ≤ d') (c1 : ∀ k, k < 14 → z = nI k → AgJ n kd k a b c → post (some (.int (Int32.ofInt 1))) (St M I J)) (c0 : (¬ ∃ k, k < 14 ∧ z = nI k ∧ AgJ n kd k a b c) → post (some (.int (Int32.ofInt 0))) (St M I J)) : Ok K d' 40 [.ref S, .int z, .int a, .int b, .int c] (St M I J) post := by
  refine Ok.up (d := d + 4) (post := post) ?_ hd (fun _ _ h => h)
  refine Ok.go (e := me_40) rfl rfl (Nat.le_of_ble_eq_true rfl) hM.1 ?_
  have tail : ∀ k pl, k < 14 → z = nI k → pl ≤ 3 → (k = 13 → ∀ t, t < n → a = nI t → pl = szs (srt (kd t))) → (k ≠ 13 → pl = 2) → Rf K (d + 3) mc_40 16 (lk [(5, .int (nI pl)), (0, .ref S), (1, .int (nI k)), (2, .int a), (3, .int b), (4, .int c)]) [] (St M I J) (fun r M1 => rok me_40.2.2.2.1 r = true ∧ post r M1) := by
    intro k pl hk hz hpl hp1 hp2
    have hAJ := agJ_fit (a := a) (b := b) (c := c) hn6 (fun s hs => (hkd s hs).2) hk hp1 hp2
    have no : ¬ AgJ n kd k a b c → ¬ ∃ k, k < 14 ∧ z = nI k ∧ AgJ n kd k a b c := by
      rintro h ⟨k2, h2, e2, h3⟩
      have : k = k2 := (nI_eq (by omega) (by omega)).mp (hz.symm.trans e2)
      rw [← this] at h3
      exact h h3
    obtain ⟨v1, v2⟩ := k3v hK (ix3 (k := k)) (by omega)
    obtain ⟨v3, v4⟩ := k3v hK (ix31 (k := k)) (by omega)
    obtain ⟨v5, v6⟩ := k3v hK (ix32 (k := k)) (by omega)
    refine Rf.go 200 [] ?_
    refine Or.inl ⟨by decide, v1, ?_⟩
    refine s_fits (d := d) hK hM hn hn6 hkd v2 (tls_lt _ (by omega)) rfl hpl (by omega) (fun f1 => ?_) (fun f1 => ?_)
    · refine And.intro (fun q => absurd q (by decide)) (fun _ => ?_)
      refine Or.inl ⟨by decide, v3, ?_⟩
      refine s_fits (d := d) hK hM hn hn6 hkd v4 (tls_lt _ (by omega)) rfl hpl (by omega) (fun f2 => ?_) (fun f2 => ?_)
      · refine And.intro (fun q => absurd q (by decide)) (fun _ => ?_)
        refine Or.inl ⟨by decide, v5, ?_⟩
        refine s_fits (d := d) hK hM hn hn6 hkd v6 (tls_lt _ (by omega)) rfl hpl (by omega) (fun f3 => ?_) (fun f3 => ?_)
        · refine And.intro (fun q => absurd q (by decide)) (fun _ => ?_)
          exact ⟨rfl, c1 k hk hz (hAJ.mpr ⟨f1, f2, f3⟩)⟩
        · refine And.intro (fun _ => ?_) (fun q => absurd (by decide) q)
          exact ⟨rfl, c0 (no (fun q => f3 (hAJ.mp q).2.2))⟩
      · refine And.intro (fun _ => ?_) (fun q => absurd (by decide) q)
        exact ⟨rfl, c0 (no (fun q => f2 (hAJ.mp q).2.1))⟩
    · refine And.intro (fun _ => ?_) (fun q => absurd (by decide) q)
      exact ⟨rfl, c0 (no (fun q => f1 (hAJ.mp q).1))⟩
  have bad : (z < 0 ∨ ¬ z ≤ Int32.ofInt 13) → ¬ ∃ k, k < 14 ∧ z = nI k ∧ AgJ n kd k a b c := by
    rintro h ⟨k, hk, rfl, -⟩
    rcases h with h | h
    · exact nI_pos (by omega) h
    · exact h (nI_le (b := 13) (by omega) (by decide))
  refine Rf.go 100 [16] ?_
  refine And.intro (fun q => ?_) (fun q => ?_)
  · exact ⟨rfl, c0 (bad (Or.inl (of_decide_eq_true q)))⟩
  have q0 : ¬ z < 0 := fun w => q (decide_eq_true w)
  refine And.intro (fun q => ?_) (fun q => ?_)
  · have q13 : z ≤ Int32.ofInt 13 := of_decide_eq_true q
    obtain ⟨k, hk, rfl⟩ := nI_of q0
    have hk : k < 14 := by
      have := (nI_leI (b := 13) hk (by decide)).mp q13
      omega
    refine And.intro (fun q => ?_) (fun q => ?_)
    · have hk13 : k ≠ 13 := fun w => by rw [w] at q; exact absurd q (by decide)
      exact Rf.weak [(5, .int (nI 2)), (0, .ref S), (1, .int (nI k)), (2, .int a), (3, .int b), (4, .int c)] ⟨rfl, rfl, rfl, rfl, rfl, rfl, trivial⟩ (tail k 2 hk rfl (by decide) (fun w => absurd w hk13) (fun _ => rfl))
    · have hk13 : k = 13 := by
        have q : nI k = Int32.ofInt 13 := Classical.not_not.mp (fun w => q (decide_eq_true w))
        exact (nI_eq (b := 13) (by omega) (by omega)).mp q
      cases hh : hsb n a with
      | true =>
        obtain ⟨t, h1, rfl⟩ := hsb_t hh hn6
        obtain ⟨k1, k2⟩ := hkd t h1
        refine (s_rowsOf (d := d) hK hM hn hn6 h1 k1 k2 rfl).up (by omega) ?_
        rintro r M1 ⟨rfl, rfl⟩
        refine Rf.weak [(5, .int (nI (szs (srt (kd t))))), (0, .ref S), (1, .int (nI k)), (2, .int (nI t)), (3, .int b), (4, .int c)] ⟨rfl, rfl, rfl, rfl, rfl, rfl, trivial⟩ (tail k _ hk rfl (szs_le _) (fun _ t2 h2 e2 => ?_) (fun w => absurd hk13 w))
        have : t = t2 := (nI_eq (by omega) (by omega)).mp e2
        rw [this]
      | false =>
        refine (s_rowsNo (d := d) hM hn hh).up (by omega) ?_
        rintro r M1 ⟨rfl, rfl⟩
        refine Rf.weak [(5, .int (nI 0)), (0, .ref S), (1, .int (nI k)), (2, .int a), (3, .int b), (4, .int c)] ⟨rfl, rfl, rfl, rfl, rfl, rfl, trivial⟩ (tail k 0 hk rfl (by decide) (fun _ t2 h2 e2 => ?_) (fun w => absurd hk13 w))
        rw [e2, hsb_i h2 hn6] at hh
        cases hh
  · exact ⟨rfl, c0 (bad (Or.inr (fun w => q (decide_eq_true w))))⟩
theorem inb_at {a N i : Nat} (hl : (mH M a).2 = N) (hi : i < N) (hN : N < 2 ^ 31) : inb (nI i) (mH M a).2 = true := by rw [hl]; exact inb_n hi (by omega)
set_option maxHeartbeats 1000000 in
theorem s_write {d' : Nat} {post : Option Value → Me → Prop} (hK : Kst K) (hM : StM M S) (hn : I S 0 = nI n) (hn6 : n < 60) (hk : k < 14) (hz : z = nI k) (hd : d + 1 ≤ d') (hp : ∀ I1, I1 (S + 1) n = nI k → (∀ t, t ≠ n → I1 (S + 1) t = I (S + 1) t) → (I1 (S + 2) (3 * n + 0) = a ∧ I1 (S + 2) (3 * n + 1) = tld k 1 b ∧ I1 (S + 2) (3 * n + 2) = tld k 2 c) → (∀ q, (q < 3 * n ∨ 3 * n + 3 ≤ q) → I1 (S + 2) q = I (S + 2) q) → (∀ c, c ≠ S + 1 → c ≠ S + 2 → I1 c = I c) → post none (St M I1 J)) : Ok K d' 42 [.ref S, .int z, .int a, .int b, .int c] (St M I J) post := by
  refine Ok.up (d := d + 1) (post := post) ?_ hd (fun _ _ h => h)
  subst hz
  obtain ⟨v3, v4⟩ := k3v hK (ix31 (k := k)) (by omega)
  obtain ⟨v5, v6⟩ := k3v hK (ix32 (k := k)) (by omega)
  have l1 := tls_lt (3 * k + 1) (by omega)
  have l2 := tls_lt (3 * k + 2) (by omega)
  refine Ok.go (e := me_42) rfl rfl (Nat.le_of_ble_eq_true rfl) hM.1 ?_
  have i0 : inb (I S 0) (mH M (S + 1)).2 = true := by rw [hn]; exact inb_at hM.2.1.2.2 hn6 (by decide)
  have e3 : Int32.ofInt 3 * I S 0 = nI (3 * n) := by rw [hn]; exact ix3
  have j0 : inb (Int32.ofInt 3 * I S 0) (mH M (S + 2)).2 = true := by rw [e3]; exact inb_at hM.2.2.2.2 (by omega) (by decide)
  have e31 : Int32.ofInt 3 * I S 0 + Int32.ofInt 1 = nI (3 * n + 1) := by rw [e3]; exact nI_add _ 1
  have e32 : Int32.ofInt 3 * I S 0 + Int32.ofInt 2 = nI (3 * n + 2) := by rw [e3]; exact nI_add _ 2
  have j1 : inb (Int32.ofInt 3 * I S 0 + Int32.ofInt 1) (mH M (S + 2)).2 = true := by rw [e31]; exact inb_at hM.2.2.2.2 (by omega) (by decide)
  have j2 : inb (Int32.ofInt 3 * I S 0 + Int32.ofInt 2) (mH M (S + 2)).2 = true := by rw [e32]; exact inb_at hM.2.2.2.2 (by omega) (by decide)
  have fin : ∀ y1 y2, y1 = tld k 1 b → y2 = tld k 2 c → post none (St M (u2 (u2 (u2 (u2 I (S + 1) (I S 0).toNatClampNeg (nI k)) (S + 2) (Int32.ofInt 3 * I S 0).toNatClampNeg a) (S + 2) (Int32.ofInt 3 * I S 0 + Int32.ofInt 1).toNatClampNeg y1) (S + 2) (Int32.ofInt 3 * I S 0 + Int32.ofInt 2).toNatClampNeg y2) J) := by
    intro y1 y2 h1 h2
    rw [e31, e32, e3, hn, nI_clamp (by omega), nI_clamp (by omega), nI_clamp (by omega), nI_clamp (by omega)]
    refine hp _ ?_ (fun t ht => ?_) ⟨?_, ?_, ?_⟩ (fun q hq => ?_) (fun c c1 c2 => ?_)
    · rw [u2_ne (by omega), u2_ne (by omega), u2_ne (by omega), u2_at, if_pos rfl]
    · rw [u2_ne (by omega), u2_ne (by omega), u2_ne (by omega), u2_at, if_neg ht]
    · rw [u2_at, if_neg (by omega), u2_at, if_neg (by omega), u2_at, if_pos (by omega)]
    · rw [u2_at, if_neg (by omega), u2_at, if_pos rfl, h1]
    · rw [u2_at, if_pos rfl, h2]
    · rw [u2_at, if_neg (by omega), u2_at, if_neg (by omega), u2_at, if_neg (by omega), u2_ne (by omega)]
    · rw [u2_ne c2, u2_ne c2, u2_ne c2, u2_ne c1]
  have t1 : ∀ x : Int32, cmpI .ne ((K 3).2 (Int32.ofInt 3 * nI k + Int32.ofInt 1).toNatClampNeg) 0 = true ↔ tls (3 * k + 1) ≠ 0 := fun _ => by
    rw [v4]
    exact ⟨fun q w => of_decide_eq_true q (by rw [w]; rfl), fun q => decide_eq_true (fun w => q ((nI_eq (b := 0) (by omega) (by omega)).mp w))⟩
  have t2 : ∀ x : Int32, cmpI .ne ((K 3).2 (Int32.ofInt 3 * nI k + Int32.ofInt 2).toNatClampNeg) 0 = true ↔ tls (3 * k + 2) ≠ 0 := fun _ => by
    rw [v6]
    exact ⟨fun q w => of_decide_eq_true q (by rw [w]; rfl), fun q => decide_eq_true (fun w => q ((nI_eq (b := 0) (by omega) (by omega)).mp w))⟩
  have sS : ∀ x y : Int32, u2 I (S + 1) (I S 0).toNatClampNeg (nI k) S 0 = I S 0 := fun _ _ => by rw [u2_ne (by omega)]
  refine Rf.go 200 [] ?_
  refine And.intro hM.1 ?_
  refine And.intro (fun q => absurd (of_decide_eq_true q) (by show ¬ Int32.ofInt 60 ≤ I S 0; rw [hn]; exact nI_ge (b := 60) hn6 (by decide))) (fun _ => ?_)
  refine And.intro (fun q => absurd (of_decide_eq_true q) (nI_pos (by omega))) (fun _ => ?_)
  refine And.intro (fun _ => ?_) (fun q => absurd (decide_eq_true (nI_le (b := 13) (by omega) (by decide))) q)
  refine And.intro hM.1 ?_
  refine And.intro hM.1 ⟨S + 1, hM.2.1.1, ?_⟩
  refine And.intro hM.1 ?_
  refine And.intro ⟨hM.2.1.2.1, i0⟩ ?_
  refine And.intro hM.1 ⟨S + 2, hM.2.2.1, ?_⟩
  refine And.intro ⟨hM.2.2.2.1, j0⟩ ?_
  refine And.intro hM.1 ⟨S + 2, hM.2.2.1, ?_⟩
  refine Or.inl ⟨by decide, v3, ?_⟩
  refine And.intro (fun q => ?_) (fun q => ?_)
  · have q := (t1 0).mp q
    refine And.intro ⟨hM.2.2.2.1, j1⟩ ?_
    refine And.intro hM.1 ⟨S + 2, hM.2.2.1, ?_⟩
    refine Or.inl ⟨by decide, v5, ?_⟩
    refine And.intro (fun q2 => ?_) (fun q2 => ?_)
    · have q2 := (t2 0).mp q2
      refine And.intro ⟨hM.2.2.2.1, j2⟩ ?_
      exact ⟨rfl, fin b c (if_neg q).symm (if_neg q2).symm⟩
    · have q2 : tls (3 * k + 2) = 0 := Classical.not_not.mp (fun w => q2 ((t2 0).mpr w))
      refine And.intro ⟨hM.2.2.2.1, j2⟩ ?_
      exact ⟨rfl, fin b _ (if_neg q).symm (if_pos q2).symm⟩
  · have q : tls (3 * k + 1) = 0 := Classical.not_not.mp (fun w => q ((t1 0).mpr w))
    refine And.intro ⟨hM.2.2.2.1, j1⟩ ?_
    refine And.intro hM.1 ⟨S + 2, hM.2.2.1, ?_⟩
    refine Or.inl ⟨by decide, v5, ?_⟩
    refine And.intro (fun q2 => ?_) (fun q2 => ?_)
    · have q2 := (t2 0).mp q2
      refine And.intro ⟨hM.2.2.2.1, j2⟩ ?_
      exact ⟨rfl, fin _ c (if_pos q).symm (if_neg q2).symm⟩
    · have q2 : tls (3 * k + 2) = 0 := Classical.not_not.mp (fun w => q2 ((t2 0).mpr w))
      refine And.intro ⟨hM.2.2.2.1, j2⟩ ?_
      exact ⟨rfl, fin _ _ (if_pos q).symm (if_pos q2).symm⟩
end St3
