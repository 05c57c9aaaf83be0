/-! What a step may be told: Steps.fits, Steps.allow, Steps.write -/
/-- x names a thing that stands, of sort s -/
def isT (n : Nat) (kd : Nat → Nat) (x : Int32) (s : Nat) : Prop := ∃ t, t < n ∧ x = nI t ∧ srt (kd t) = s
def inL (x : Int32) (hi : Nat) : Prop := ∃ t, t < hi ∧ x = nI t
def AgJ (n : Nat) (kd : Nat → Nat) (k : Nat) (a b c : Int32) : Prop :=
  if k = 0 then True else if k = 5 then isT n kd a 0 else if k ≤ 6 then isT n kd a 0 ∧ isT n kd b 0 else if k ≤ 8 then isT n kd a 1 ∧ isT n kd b 1 else if k = 9 then isT n kd a 1 ∧ isT n kd b 1 ∧ isT n kd c 1 else if k ≤ 11 then isT n kd a 2 ∧ isT n kd b 1
  else if k = 12 then (isT n kd a 2 ∨ isT n kd a 3) ∧ (isT n kd b 2 ∨ isT n kd b 3) ∧ inL c 2 else (isT n kd a 1 ∧ inL b 2) ∨ ((isT n kd a 2 ∨ isT n kd a 3) ∧ inL b 3)
theorem shr_t : ∀ tl, tl < 33 → ∀ s, s < 4 → ((nI tl >>> (nI s &&& 31)) &&& Int32.ofInt 1 = Int32.ofInt 1 ↔ (tl / 2 ^ s) % 2 = 1) := by decide
def FitP (n : Nat) (kd : Nat → Nat) (tl : Nat) (x : Int32) (pl : Nat) : Prop := tl = 0 ∨ tl = 16 ∨ (tl = 32 ∧ inL x pl) ∨ (tl ≠ 0 ∧ tl ≠ 16 ∧ tl ≠ 32 ∧ ∃ t, t < n ∧ x = nI t ∧ (tl / 2 ^ srt (kd t)) % 2 = 1)
section St2
variable {K : Ka} {d S n t i k : Nat} {M : Me} {I : Nat → Nat → Int32} {J : Nat → Nat → Int64} {kd : Nat → Nat} {a b c x z w : Int32}
theorem inL_iff {hi : Nat} (hh : hi < 2 ^ 31) : inL x hi ↔ (¬ x < 0 ∧ x < nI hi) := by
  constructor
  · rintro ⟨t, h1, rfl⟩
    exact ⟨nI_pos (by omega), nI_lt h1 hh⟩
  · rintro ⟨h1, h2⟩
    obtain ⟨j, hj, rfl⟩ := nI_of h1
    exact ⟨j, (nI_ltI hj hh).mp h2, rfl⟩
set_option maxHeartbeats 1000000 in
theorem s_fits {tl pl d' : Nat} {zt zp : Int32} {post : Option Value → Me → Prop} (hK : Kst K) (hM : StM M S) (hn : I S 0 = nI n) (hn6 : n ≤ 60) (hkd : ∀ s, s < n → I (S + 1) s = nI (kd s) ∧ kd s < 14) (hzt : zt = nI tl) (htl : tl < 33) (hzp : zp = nI pl) (hpl : pl ≤ 3) (hd : d + 3 ≤ d') (c1 : FitP n kd tl x pl → post (some (.int (Int32.ofInt 1))) (St M I J)) (c0 : ¬ FitP n kd tl x pl → post (some (.int (Int32.ofInt 0))) (St M I J)) : Ok K d' 41 [.ref S, .int zt, .int x, .int zp] (St M I J) post := by
  refine Ok.up (d := d + 3) (post := post) ?_ hd (fun _ _ h => h)
  subst hzt hzp
  refine Ok.go (e := me_41) rfl rfl (Nat.le_of_ble_eq_true rfl) hM.1 ?_
  refine Rf.go 100 [] ?_
  refine And.intro (fun hb => ?_) (fun hb => ?_)
  · have hb : nI tl = 0 := of_decide_eq_true hb
    have hb : tl = 0 := (nI_eq (b := 0) (by omega) (by omega)).mp hb
    exact ⟨rfl, c1 (Or.inl hb)⟩
  have t0 : tl ≠ 0 := fun q => hb (by rw [q]; decide)
  refine And.intro (fun hb => ?_) (fun hb => ?_)
  · have t16 : tl ≠ 16 := fun q => by rw [q] at hb; exact absurd hb (by decide)
    refine And.intro (fun hc => ?_) (fun hc => ?_)
    · have t32 : tl ≠ 32 := fun q => by rw [q] at hc; exact absurd hc (by decide)
      refine (s_has (d := d) hM hn).up (by omega) ?_
      rintro r M1 ⟨rfl, rfl⟩
      cases hh : hsb n x with
      | false =>
        refine And.intro (fun _ => ?_) (fun q => absurd (by decide) q)
        refine ⟨rfl, c0 ?_⟩
        rintro (q | q | q | ⟨-, -, -, t, h1, rfl, -⟩)
        · exact t0 q
        · exact t16 q
        · exact t32 q.1
        · rw [hsb_i h1 hn6] at hh
          cases hh
      | true =>
        obtain ⟨t, h1, rfl⟩ := hsb_t hh hn6
        obtain ⟨k1, k2⟩ := hkd t h1
        have hs4 := srt_lt (kd t) k2
        refine And.intro (fun q => absurd q (by decide)) (fun _ => ?_)
        refine (s_sortOf (d := d) hK hM hn hn6 h1 k1 k2 rfl).up (by omega) ?_
        rintro r M1 ⟨rfl, rfl⟩
        have hsh := shr_t tl htl (srt (kd t)) hs4
        refine And.intro (fun q => ?_) (fun q => ?_)
        · have q : ¬ (nI tl >>> (nI (srt (kd t)) &&& 31)) &&& Int32.ofInt 1 = Int32.ofInt 1 := of_decide_eq_true q
          rw [hsh] at q
          refine ⟨rfl, c0 ?_⟩
          rintro (w | w | w | ⟨-, -, -, t2, h2, e2, w⟩)
          · exact t0 w
          · exact t16 w
          · exact t32 w.1
          · have : t = t2 := (nI_eq (by omega) (by omega)).mp e2
            rw [← this] at w
            exact q w
        · have q : (nI tl >>> (nI (srt (kd t)) &&& 31)) &&& Int32.ofInt 1 = Int32.ofInt 1 := Classical.not_not.mp (fun w => q (decide_eq_true w))
          rw [hsh] at q
          exact ⟨rfl, c1 (Or.inr (Or.inr (Or.inr ⟨t0, t16, t32, t, h1, rfl, q⟩)))⟩
    · have t32 : tl = 32 := by
        have q : nI tl = Int32.ofInt 32 := Classical.not_not.mp (fun q => hc (decide_eq_true q))
        exact (nI_eq (b := 32) (by omega) (by omega)).mp q
      have hno : ¬ inL x pl → ¬ FitP n kd tl x pl := by
        rintro h (q | q | q | q)
        · exact t0 q
        · exact t16 q
        · exact h q.2
        · exact q.2.2.1 t32
      refine And.intro (fun q => ?_) (fun q => ?_)
      · have q : x < 0 := of_decide_eq_true q
        exact ⟨rfl, c0 (hno (fun w => ((inL_iff (by omega)).mp w).1 q))⟩
      · have q : ¬ x < 0 := fun w => q (decide_eq_true w)
        refine And.intro (fun q2 => ?_) (fun q2 => ?_)
        · have q2 : nI pl ≤ x := of_decide_eq_true q2
          exact ⟨rfl, c0 (hno (fun w => absurd ((inL_iff (by omega)).mp w).2 (Int32.not_lt.mpr q2)))⟩
        · have q2 : ¬ nI pl ≤ x := fun w => q2 (decide_eq_true w)
          exact ⟨rfl, c1 (Or.inr (Or.inr (Or.inl ⟨t32, (inL_iff (by omega)).mpr ⟨q, Int32.not_le.mp q2⟩⟩)))⟩
  · have t16 : tl = 16 := by
      have q : nI tl = Int32.ofInt 16 := Classical.not_not.mp (fun q => hb (decide_eq_true q))
      exact (nI_eq (b := 16) (by omega) (by omega)).mp q
    exact ⟨rfl, c1 (Or.inr (Or.inl t16))⟩
theorem fit_0 {pl : Nat} : FitP n kd 0 x pl := Or.inl rfl
theorem fit_16 {pl : Nat} : FitP n kd 16 x pl := Or.inr (Or.inl rfl)
theorem fit_32 {pl : Nat} : FitP n kd 32 x pl ↔ inL x pl := by
  constructor
  · rintro (q | q | q | q)
    · exact absurd q (by decide)
    · exact absurd q (by decide)
    · exact q.2
    · exact absurd rfl q.2.2.1
  · exact fun q => Or.inr (Or.inr (Or.inl ⟨rfl, q⟩))
theorem fit_s {tl pl : Nat} (h0 : tl ≠ 0) (h16 : tl ≠ 16) (h32 : tl ≠ 32) : FitP n kd tl x pl ↔ ∃ t, t < n ∧ x = nI t ∧ (tl / 2 ^ srt (kd t)) % 2 = 1 := by
  constructor
  · rintro (q | q | q | q)
    · exact absurd q h0
    · exact absurd q h16
    · exact absurd q.1 h32
    · exact q.2.2.2
  · exact fun q => Or.inr (Or.inr (Or.inr ⟨h0, h16, h32, q⟩))
theorem bit_s : ∀ s, s < 4 → ((1 / 2 ^ s % 2 = 1 ↔ s = 0) ∧ (2 / 2 ^ s % 2 = 1 ↔ s = 1) ∧ (4 / 2 ^ s % 2 = 1 ↔ s = 2) ∧ (12 / 2 ^ s % 2 = 1 ↔ (s = 2 ∨ s = 3)) ∧ (14 / 2 ^ s % 2 = 1 ↔ (s = 1 ∨ s = 2 ∨ s = 3))) := by decide
theorem fit_1 {pl : Nat} (hkd : ∀ s, s < n → kd s < 14) : FitP n kd 1 x pl ↔ isT n kd x 0 := by
  rw [fit_s (by decide) (by decide) (by decide)]
  exact ⟨fun ⟨t, a, b, c⟩ => ⟨t, a, b, (bit_s _ (srt_lt _ (hkd t a))).1.mp c⟩, fun ⟨t, a, b, c⟩ => ⟨t, a, b, (bit_s _ (srt_lt _ (hkd t a))).1.mpr c⟩⟩
theorem fit_2 {pl : Nat} (hkd : ∀ s, s < n → kd s < 14) : FitP n kd 2 x pl ↔ isT n kd x 1 := by
  rw [fit_s (by decide) (by decide) (by decide)]
  exact ⟨fun ⟨t, a, b, c⟩ => ⟨t, a, b, (bit_s _ (srt_lt _ (hkd t a))).2.1.mp c⟩, fun ⟨t, a, b, c⟩ => ⟨t, a, b, (bit_s _ (srt_lt _ (hkd t a))).2.1.mpr c⟩⟩
theorem fit_4 {pl : Nat} (hkd : ∀ s, s < n → kd s < 14) : FitP n kd 4 x pl ↔ isT n kd x 2 := by
  rw [fit_s (by decide) (by decide) (by decide)]
  exact ⟨fun ⟨t, a, b, c⟩ => ⟨t, a, b, (bit_s _ (srt_lt _ (hkd t a))).2.2.1.mp c⟩, fun ⟨t, a, b, c⟩ => ⟨t, a, b, (bit_s _ (srt_lt _ (hkd t a))).2.2.1.mpr c⟩⟩
theorem fit_12 {pl : Nat} (hkd : ∀ s, s < n → kd s < 14) : FitP n kd 12 x pl ↔ (isT n kd x 2 ∨ isT n kd x 3) := by
  rw [fit_s (by decide) (by decide) (by decide)]
  constructor
  · rintro ⟨t, a, b, c⟩
    exact ((bit_s _ (srt_lt _ (hkd t a))).2.2.2.1.mp c).elim (fun q => Or.inl ⟨t, a, b, q⟩) (fun q => Or.inr ⟨t, a, b, q⟩)
  · rintro (⟨t, a, b, c⟩ | ⟨t, a, b, c⟩)
    · exact ⟨t, a, b, (bit_s _ (srt_lt _ (hkd t a))).2.2.2.1.mpr (Or.inl c)⟩
    · exact ⟨t, a, b, (bit_s _ (srt_lt _ (hkd t a))).2.2.2.1.mpr (Or.inr c)⟩
theorem fit_14 {pl : Nat} (hkd : ∀ s, s < n → kd s < 14) : FitP n kd 14 x pl ↔ (isT n kd x 1 ∨ isT n kd x 2 ∨ isT n kd x 3) := by
  rw [fit_s (by decide) (by decide) (by decide)]
  constructor
  · rintro ⟨t, a, b, c⟩
    exact ((bit_s _ (srt_lt _ (hkd t a))).2.2.2.2.mp c).elim (fun q => Or.inl ⟨t, a, b, q⟩) (fun q => q.elim (fun q => Or.inr (Or.inl ⟨t, a, b, q⟩)) (fun q => Or.inr (Or.inr ⟨t, a, b, q⟩)))
  · rintro (⟨t, a, b, c⟩ | ⟨t, a, b, c⟩ | ⟨t, a, b, c⟩)
    · exact ⟨t, a, b, (bit_s _ (srt_lt _ (hkd t a))).2.2.2.2.mpr (Or.inl c)⟩
    · exact ⟨t, a, b, (bit_s _ (srt_lt _ (hkd t a))).2.2.2.2.mpr (Or.inr (Or.inl c))⟩
    · exact ⟨t, a, b, (bit_s _ (srt_lt _ (hkd t a))).2.2.2.2.mpr (Or.inr (Or.inr c))⟩
/-- the places of what is told of -/
theorem isT_fun {s s' : Nat} (hn6 : n ≤ 60) (h1 : isT n kd x s) (h2 : isT n kd x s') : s = s' := by
  obtain ⟨t, a, rfl, c⟩ := h1
  obtain ⟨t2, a2, b2, c2⟩ := h2
  have : t = t2 := (nI_eq (by omega) (by omega)).mp b2
  rw [this] at c
  exact c.symm.trans c2
theorem agJ_fit (hn6 : n ≤ 60) (hkd : ∀ s, s < n → kd s < 14) {pl : Nat} (hk : k < 14) (hpl : k = 13 → ∀ t, t < n → a = nI t → pl = szs (srt (kd t))) (hpl2 : k ≠ 13 → pl = 2) : AgJ n kd k a b c ↔ (FitP n kd (tls (3 * k)) a pl ∧ FitP n kd (tls (3 * k + 1)) b pl ∧ FitP n kd (tls (3 * k + 2)) c pl) := by
  have z : ∀ {x pl}, FitP n kd 0 x pl ↔ True := fun {x pl} => ⟨fun _ => trivial, fun _ => fit_0⟩
  rcases (show k = 0 ∨ k = 1 ∨ k = 2 ∨ k = 3 ∨ k = 4 ∨ k = 5 ∨ k = 6 ∨ k = 7 ∨ k = 8 ∨ k = 9 ∨ k = 10 ∨ k = 11 ∨ k = 12 ∨ k = 13 by omega) with rfl | rfl | rfl | rfl | rfl | rfl | rfl | rfl | rfl | rfl | rfl | rfl | rfl | rfl
  · exact ⟨fun _ => ⟨fit_16, fit_0, fit_0⟩, fun _ => trivial⟩
  · show (isT n kd a 0 ∧ isT n kd b 0) ↔ (FitP n kd 1 a pl ∧ FitP n kd 1 b pl ∧ FitP n kd 0 c pl)
    rw [fit_1 hkd, fit_1 hkd, z, and_true]
  · show (isT n kd a 0 ∧ isT n kd b 0) ↔ (FitP n kd 1 a pl ∧ FitP n kd 1 b pl ∧ FitP n kd 0 c pl)
    rw [fit_1 hkd, fit_1 hkd, z, and_true]
  · show (isT n kd a 0 ∧ isT n kd b 0) ↔ (FitP n kd 1 a pl ∧ FitP n kd 1 b pl ∧ FitP n kd 0 c pl)
    rw [fit_1 hkd, fit_1 hkd, z, and_true]
  · show (isT n kd a 0 ∧ isT n kd b 0) ↔ (FitP n kd 1 a pl ∧ FitP n kd 1 b pl ∧ FitP n kd 0 c pl)
    rw [fit_1 hkd, fit_1 hkd, z, and_true]
  · show isT n kd a 0 ↔ (FitP n kd 1 a pl ∧ FitP n kd 0 b pl ∧ FitP n kd 0 c pl)
    rw [fit_1 hkd, z, z, and_true, and_true]
  · show (isT n kd a 0 ∧ isT n kd b 0) ↔ (FitP n kd 1 a pl ∧ FitP n kd 1 b pl ∧ FitP n kd 0 c pl)
    rw [fit_1 hkd, fit_1 hkd, z, and_true]
  · show (isT n kd a 1 ∧ isT n kd b 1) ↔ (FitP n kd 2 a pl ∧ FitP n kd 2 b pl ∧ FitP n kd 0 c pl)
    rw [fit_2 hkd, fit_2 hkd, z, and_true]
  · show (isT n kd a 1 ∧ isT n kd b 1) ↔ (FitP n kd 2 a pl ∧ FitP n kd 2 b pl ∧ FitP n kd 0 c pl)
    rw [fit_2 hkd, fit_2 hkd, z, and_true]
  · show (isT n kd a 1 ∧ isT n kd b 1 ∧ isT n kd c 1) ↔ (FitP n kd 2 a pl ∧ FitP n kd 2 b pl ∧ FitP n kd 2 c pl)
    rw [fit_2 hkd, fit_2 hkd, fit_2 hkd]
  · show (isT n kd a 2 ∧ isT n kd b 1) ↔ (FitP n kd 4 a pl ∧ FitP n kd 2 b pl ∧ FitP n kd 0 c pl)
    rw [fit_4 hkd, fit_2 hkd, z, and_true]
  · show (isT n kd a 2 ∧ isT n kd b 1) ↔ (FitP n kd 4 a pl ∧ FitP n kd 2 b pl ∧ FitP n kd 0 c pl)
    rw [fit_4 hkd, fit_2 hkd, z, and_true]
  · show ((isT n kd a 2 ∨ isT n kd a 3) ∧ (isT n kd b 2 ∨ isT n kd b 3) ∧ inL c 2) ↔ (FitP n kd 12 a pl ∧ FitP n kd 12 b pl ∧ FitP n kd 32 c pl)
    rw [fit_12 hkd, fit_12 hkd, fit_32, hpl2 (by decide)]
  · show ((isT n kd a 1 ∧ inL b 2) ∨ ((isT n kd a 2 ∨ isT n kd a 3) ∧ inL b 3)) ↔ (FitP n kd 14 a pl ∧ FitP n kd 32 b pl ∧ FitP n kd 0 c pl)
    rw [fit_14 hkd, fit_32, z, and_true]
    have e : ∀ s, isT n kd a s → pl = szs s := fun s ⟨t, h1, h2, h3⟩ => by rw [hpl rfl t h1 h2, h3]
    constructor
    · rintro (⟨h1, h2⟩ | ⟨h1 | h1, h2⟩)
      · rw [e 1 h1]; exact ⟨Or.inl h1, h2⟩
      · rw [e 2 h1]; exact ⟨Or.inr (Or.inl h1), h2⟩
      · rw [e 3 h1]; exact ⟨Or.inr (Or.inr h1), h2⟩
    · rintro ⟨h1 | h1 | h1, h2⟩
      · rw [e 1 h1] at h2; exact Or.inl ⟨h1, h2⟩
      · rw [e 2 h1] at h2; exact Or.inr ⟨Or.inl h1, h2⟩
      · rw [e 3 h1] at h2; exact Or.inr ⟨Or.inr h1, h2⟩
end St2
