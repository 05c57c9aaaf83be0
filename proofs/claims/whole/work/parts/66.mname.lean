/-! The model's tests of what is told -/
section N7
variable {K : Ka} {d m p h n : Nat} {M : Me} {I : Nat → Nat → Int32} {J : Nat → Nat → Int64} {kd : Nat → Nat} {x y a b c : Int32}
theorem l_le (x y : Int32) : x.toInt64 ≤ y.toInt64 ↔ x ≤ y := by rw [Int64.le_iff_toInt_le, Int32.le_iff_toInt_le, Int32.toInt_toInt64, Int32.toInt_toInt64]
theorem m_in {d' : Nat} {v lo hi : Int64} {N : Me} {post : Option Value → Me → Prop} (hd : d + 1 ≤ d') (c1 : lo ≤ v ∧ v ≤ hi → post (some (.int (Int32.ofInt 1))) N) (c0 : ¬ (lo ≤ v ∧ v ≤ hi) → post (some (.int (Int32.ofInt 0))) N) : Ok K d' 94 [.long v, .long lo, .long hi] N post := by
  refine Ok.up (d := d + 1) (post := post) ?_ hd (fun _ _ h => h)
  refine Ok.go (e := me_94) rfl rfl (Nat.le_of_ble_eq_true rfl) rfl ?_
  refine Rf.go 100 [] ?_
  refine And.intro (fun q => ?_) (fun q => ?_)
  · have q : v < lo := (lg_cmp_lt _ _).mp (of_decide_eq_true q)
    exact ⟨rfl, c0 (fun w => absurd q (Int64.not_lt.mpr w.1))⟩
  · have q : ¬ v < lo := fun w => q (decide_eq_true ((lg_cmp_lt _ _).mpr w))
    refine And.intro (fun r => ?_) (fun r => ?_)
    · have r : hi < v := (lg_cmp_gt _ _).mp (of_decide_eq_true r)
      exact ⟨rfl, c0 (fun w => absurd r (Int64.not_lt.mpr w.2))⟩
    · have r : ¬ hi < v := fun w => r (decide_eq_true ((lg_cmp_gt _ _).mpr w))
      exact ⟨rfl, c1 ⟨Int64.not_lt.mp q, Int64.not_lt.mp r⟩⟩
theorem in_iff {hi : Nat} (hh : hi + 1 < 2 ^ 31) : ((Int64.ofNat 0 : Int64) ≤ x.toInt64 ∧ x.toInt64 ≤ Int64.ofNat hi) ↔ inL x (hi + 1) := by
  rw [inL_iff hh]
  have e0 : (Int64.ofNat 0 : Int64) = (nI 0).toInt64 := (nI_l (n := 0) (by decide)).symm
  have e1 : (Int64.ofNat hi : Int64) = (nI hi).toInt64 := (nI_l (n := hi) (by omega)).symm
  rw [e0, e1, l_le, l_le]
  constructor
  · rintro ⟨h1, h2⟩
    have h1 : ¬ x < 0 := Int32.not_lt.mpr h1
    obtain ⟨j, hj, rfl⟩ := nI_of h1
    have := (nI_leI hj (by omega)).mp h2
    exact ⟨h1, nI_lt (by omega) hh⟩
  · rintro ⟨h1, h2⟩
    obtain ⟨j, hj, rfl⟩ := nI_of h1
    have := (nI_ltI hj hh).mp h2
    exact ⟨nI_le (a := 0) (by omega) hj, nI_le (by omega) (by omega)⟩
theorem in_n (hn : n ≤ 60) : ((Int64.ofNat 0 : Int64) ≤ x.toInt64 ∧ x.toInt64 ≤ (nI n - Int32.ofInt 1).toInt64) ↔ inL x n := by
  by_cases h0 : n = 0
  · subst h0
    constructor
    · rintro ⟨h1, h2⟩
      have e0 : (Int64.ofNat 0 : Int64) = (nI 0).toInt64 := (nI_l (n := 0) (by decide)).symm
      rw [e0, l_le] at h1
      rw [l_le] at h2
      exact absurd (Int32.le_trans h1 h2) (by decide)
    · rintro ⟨t, h1, -⟩
      exact absurd h1 (Nat.not_lt_zero t)
  · have e : nI n - Int32.ofInt 1 = nI (n - 1) := pk_sub (b := 1) (by omega)
    have e2 : (nI (n - 1)).toInt64 = Int64.ofNat (n - 1) := nI_l (by omega)
    rw [e, e2, in_iff (by omega), show n - 1 + 1 = n by omega]
/-- the model's things: how many, their sorts -/
def MoT (I : Nat → Nat → Int32) (m n : Nat) (kd : Nat → Nat) : Prop := I m 3 = nI n ∧ n ≤ 60 ∧ ∀ s, s < n → I (m + 5) s = nI (srt (kd s)) ∧ kd s < 14
theorem m_isThing {d' : Nat} {post : Option Value → Me → Prop} (hM : MoM M m) (hT : MoT I m n kd) (hd : d + 2 ≤ d') (c1 : inL x n → post (some (.int (Int32.ofInt 1))) (St M I J)) (c0 : ¬ inL x n → post (some (.int (Int32.ofInt 0))) (St M I J)) : Ok K d' 144 [.ref m, .int x] (St M I J) post := by
  refine Ok.up (d := d + 2) (post := post) ?_ hd (fun _ _ h => h)
  have hi := in_n (x := x) hT.2.1
  rw [← hT.1] at hi
  refine Ok.go (e := me_144) rfl rfl (Nat.le_of_ble_eq_true rfl) hM.c ?_
  refine Rf.go 100 [] ?_
  refine And.intro hM.c ?_
  exact m_in (d := d) (by omega) (fun q => ⟨rfl, c1 (hi.mp q)⟩) (fun q => ⟨rfl, c0 (fun w => q (hi.mpr w))⟩)
theorem m_isOf {s d' : Nat} {zs : Int32} {post : Option Value → Me → Prop} (hM : MoM M m) (hT : MoT I m n kd) (hzs : zs = nI s) (hs : s < 4) (hd : d + 2 ≤ d') (c1 : isT n kd x s → post (some (.int (Int32.ofInt 1))) (St M I J)) (c0 : ¬ isT n kd x s → post (some (.int (Int32.ofInt 0))) (St M I J)) : Ok K d' 121 [.ref m, .int x, .int zs] (St M I J) post := by
  refine Ok.up (d := d + 2) (post := post) ?_ hd (fun _ _ h => h)
  subst hzs
  obtain ⟨t3, n6, sr⟩ := hT
  have hi := in_n (x := x) n6
  rw [← t3] at hi
  refine Ok.go (e := me_121) rfl rfl (Nat.le_of_ble_eq_true rfl) hM.c ?_
  refine Rf.go 100 [] ?_
  refine And.intro hM.c ?_
  refine m_in (d := d) (by omega) (fun q => ?_) (fun q => ?_)
  · obtain ⟨t, ht, rfl⟩ := hi.mp q
    obtain ⟨s1, s2⟩ := sr t ht
    have hl := srt_lt (kd t) s2
    refine And.intro (fun r => absurd r (by decide)) (fun _ => ?_)
    refine And.intro hM.c ⟨m + 5, hM.r8, ?_⟩
    refine Or.inr (And.intro ⟨(hM.a60 (a := m + 5) (by omega)).1, inb60 (a := 0) hM (by omega)⟩ ?_)
    have e : I (m + 5) (nI t).toNatClampNeg = nI (srt (kd t)) := by rw [nI_clamp (by omega)]; exact s1
    refine And.intro (fun r => ?_) (fun r => ?_)
    · have r : ¬ I (m + 5) (nI t).toNatClampNeg = nI s := of_decide_eq_true r
      rw [e] at r
      refine ⟨rfl, c0 ?_⟩
      rintro ⟨t2, h1, h2, h3⟩
      have : t = t2 := (nI_eq (by omega) (by omega)).mp h2
      rw [this, h3] at r
      exact r rfl
    · have r : I (m + 5) (nI t).toNatClampNeg = nI s := Classical.not_not.mp (fun w => r (decide_eq_true w))
      rw [e] at r
      exact ⟨rfl, c1 ⟨t, ht, rfl, (nI_eq (by omega) (by omega)).mp r⟩⟩
  · refine And.intro (fun _ => ?_) (fun r => absurd (by decide) r)
    exact ⟨rfl, c0 (fun ⟨t, h1, h2, _⟩ => q (hi.mpr ⟨t, h1, h2⟩))⟩
theorem m_isRound {d' : Nat} {post : Option Value → Me → Prop} (hM : MoM M m) (hT : MoT I m n kd) (hd : d + 3 ≤ d') (c1 : (isT n kd x 2 ∨ isT n kd x 3) → post (some (.int (Int32.ofInt 1))) (St M I J)) (c0 : ¬ (isT n kd x 2 ∨ isT n kd x 3) → post (some (.int (Int32.ofInt 0))) (St M I J)) : Ok K d' 122 [.ref m, .int x] (St M I J) post := by
  refine Ok.up (d := d + 3) (post := post) ?_ hd (fun _ _ h => h)
  refine Ok.go (e := me_122) rfl rfl (Nat.le_of_ble_eq_true rfl) hM.c ?_
  refine Rf.go 100 [] ?_
  refine m_isOf (d := d) (s := 2) hM hT rfl (by decide) (by omega) (fun q => ?_) (fun q => ?_)
  · refine And.intro (fun _ => ?_) (fun r => absurd (by decide) r)
    exact ⟨rfl, c1 (Or.inl q)⟩
  · refine And.intro (fun r => absurd r (by decide)) (fun _ => ?_)
    refine m_isOf (d := d) (s := 3) hM hT rfl (by decide) (by omega) (fun r => ?_) (fun r => ?_)
    · refine And.intro (fun r => absurd r (by decide)) (fun _ => ?_)
      exact ⟨rfl, c1 (Or.inr r)⟩
    · refine And.intro (fun _ => ?_) (fun r => absurd (by decide) r)
      exact ⟨rfl, c0 (fun w => w.elim q r)⟩
set_option maxHeartbeats 2000000 in
theorem m_mayName {k d' : Nat} {z : Int32} {post : Option Value → Me → Prop} (hM : MoM M m) (hT : MoT I m n kd) (hz : z = nI k) (hk : k < 14) (hd : d + 4 ≤ d') (c1 : AgJ n kd k a b c → post (some (.int (Int32.ofInt 1))) (St M I J)) (c0 : ¬ AgJ n kd k a b c → post (some (.int (Int32.ofInt 0))) (St M I J)) : Ok K d' 123 [.ref m, .int z, .int a, .int b, .int c] (St M I J) post := by
  refine Ok.up (d := d + 4) (post := post) ?_ hd (fun _ _ h => h)
  subst hz
  refine Ok.go (e := me_123) rfl rfl (Nat.le_of_ble_eq_true rfl) hM.c ?_
  rcases (show k = 0 ∨ k = 1 ∨ k = 2 ∨ k = 3 ∨ k = 4 ∨ k = 5 ∨ k = 6 ∨ k = 7 ∨ k = 8 ∨ k = 9 ∨ k = 10 ∨ k = 11 ∨ k = 12 ∨ k = 13 by omega) with rfl | rfl | rfl | rfl | rfl | rfl | rfl | rfl | rfl | rfl | rfl | rfl | rfl | rfl
  · refine Rf.go 200 [] ?_
    refine And.intro (fun q => absurd q (by decide)) (fun _ => ⟨2, rfl, ?_⟩)
    exact ⟨rfl, c1 trivial⟩
  · refine Rf.go 200 [] ?_
    refine And.intro (fun q => absurd q (by decide)) (fun _ => ⟨4, rfl, ?_⟩)
    refine m_isOf (d := d) (s := 0) hM hT rfl (by decide) (by omega) (fun h0 => ?_) (fun h0 => ?_)
    · refine And.intro (fun q => absurd q (by decide)) (fun _ => ?_)
      refine m_isOf (d := d) (s := 0) hM hT rfl (by decide) (by omega) (fun h1 => ?_) (fun h1 => ?_)
      · refine And.intro (fun q => absurd q (by decide)) (fun _ => ?_)
        exact ⟨rfl, c1 ⟨h0, h1⟩⟩
      · refine And.intro (fun _ => ?_) (fun q => absurd (by decide) q)
        exact ⟨rfl, c0 (fun w => h1 (w.2))⟩
    · refine And.intro (fun _ => ?_) (fun q => absurd (by decide) q)
      exact ⟨rfl, c0 (fun w => h0 (w.1))⟩
  · refine Rf.go 200 [] ?_
    refine And.intro (fun q => absurd q (by decide)) (fun _ => ⟨4, rfl, ?_⟩)
    refine m_isOf (d := d) (s := 0) hM hT rfl (by decide) (by omega) (fun h0 => ?_) (fun h0 => ?_)
    · refine And.intro (fun q => absurd q (by decide)) (fun _ => ?_)
      refine m_isOf (d := d) (s := 0) hM hT rfl (by decide) (by omega) (fun h1 => ?_) (fun h1 => ?_)
      · refine And.intro (fun q => absurd q (by decide)) (fun _ => ?_)
        exact ⟨rfl, c1 ⟨h0, h1⟩⟩
      · refine And.intro (fun _ => ?_) (fun q => absurd (by decide) q)
        exact ⟨rfl, c0 (fun w => h1 (w.2))⟩
    · refine And.intro (fun _ => ?_) (fun q => absurd (by decide) q)
      exact ⟨rfl, c0 (fun w => h0 (w.1))⟩
  · refine Rf.go 200 [] ?_
    refine And.intro (fun q => absurd q (by decide)) (fun _ => ⟨4, rfl, ?_⟩)
    refine m_isOf (d := d) (s := 0) hM hT rfl (by decide) (by omega) (fun h0 => ?_) (fun h0 => ?_)
    · refine And.intro (fun q => absurd q (by decide)) (fun _ => ?_)
      refine m_isOf (d := d) (s := 0) hM hT rfl (by decide) (by omega) (fun h1 => ?_) (fun h1 => ?_)
      · refine And.intro (fun q => absurd q (by decide)) (fun _ => ?_)
        exact ⟨rfl, c1 ⟨h0, h1⟩⟩
      · refine And.intro (fun _ => ?_) (fun q => absurd (by decide) q)
        exact ⟨rfl, c0 (fun w => h1 (w.2))⟩
    · refine And.intro (fun _ => ?_) (fun q => absurd (by decide) q)
      exact ⟨rfl, c0 (fun w => h0 (w.1))⟩
  · refine Rf.go 200 [] ?_
    refine And.intro (fun q => absurd q (by decide)) (fun _ => ⟨4, rfl, ?_⟩)
    refine m_isOf (d := d) (s := 0) hM hT rfl (by decide) (by omega) (fun h0 => ?_) (fun h0 => ?_)
    · refine And.intro (fun q => absurd q (by decide)) (fun _ => ?_)
      refine m_isOf (d := d) (s := 0) hM hT rfl (by decide) (by omega) (fun h1 => ?_) (fun h1 => ?_)
      · refine And.intro (fun q => absurd q (by decide)) (fun _ => ?_)
        exact ⟨rfl, c1 ⟨h0, h1⟩⟩
      · refine And.intro (fun _ => ?_) (fun q => absurd (by decide) q)
        exact ⟨rfl, c0 (fun w => h1 (w.2))⟩
    · refine And.intro (fun _ => ?_) (fun q => absurd (by decide) q)
      exact ⟨rfl, c0 (fun w => h0 (w.1))⟩
  · refine Rf.go 200 [] ?_
    refine And.intro (fun q => absurd q (by decide)) (fun _ => ⟨18, rfl, ?_⟩)
    refine m_isOf (d := d) (s := 0) hM hT rfl (by decide) (by omega) (fun h0 => ⟨rfl, c1 h0⟩) (fun h0 => ⟨rfl, c0 h0⟩)
  · refine Rf.go 200 [] ?_
    refine And.intro (fun q => absurd q (by decide)) (fun _ => ⟨4, rfl, ?_⟩)
    refine m_isOf (d := d) (s := 0) hM hT rfl (by decide) (by omega) (fun h0 => ?_) (fun h0 => ?_)
    · refine And.intro (fun q => absurd q (by decide)) (fun _ => ?_)
      refine m_isOf (d := d) (s := 0) hM hT rfl (by decide) (by omega) (fun h1 => ?_) (fun h1 => ?_)
      · refine And.intro (fun q => absurd q (by decide)) (fun _ => ?_)
        exact ⟨rfl, c1 ⟨h0, h1⟩⟩
      · refine And.intro (fun _ => ?_) (fun q => absurd (by decide) q)
        exact ⟨rfl, c0 (fun w => h1 (w.2))⟩
    · refine And.intro (fun _ => ?_) (fun q => absurd (by decide) q)
      exact ⟨rfl, c0 (fun w => h0 (w.1))⟩
  · refine Rf.go 200 [] ?_
    refine And.intro (fun q => absurd q (by decide)) (fun _ => ⟨23, rfl, ?_⟩)
    refine m_isOf (d := d) (s := 1) hM hT rfl (by decide) (by omega) (fun h0 => ?_) (fun h0 => ?_)
    · refine And.intro (fun q => absurd q (by decide)) (fun _ => ?_)
      refine m_isOf (d := d) (s := 1) hM hT rfl (by decide) (by omega) (fun h1 => ?_) (fun h1 => ?_)
      · refine And.intro (fun q => absurd q (by decide)) (fun _ => ?_)
        exact ⟨rfl, c1 ⟨h0, h1⟩⟩
      · refine And.intro (fun _ => ?_) (fun q => absurd (by decide) q)
        exact ⟨rfl, c0 (fun w => h1 (w.2))⟩
    · refine And.intro (fun _ => ?_) (fun q => absurd (by decide) q)
      exact ⟨rfl, c0 (fun w => h0 (w.1))⟩
  · refine Rf.go 200 [] ?_
    refine And.intro (fun q => absurd q (by decide)) (fun _ => ⟨23, rfl, ?_⟩)
    refine m_isOf (d := d) (s := 1) hM hT rfl (by decide) (by omega) (fun h0 => ?_) (fun h0 => ?_)
    · refine And.intro (fun q => absurd q (by decide)) (fun _ => ?_)
      refine m_isOf (d := d) (s := 1) hM hT rfl (by decide) (by omega) (fun h1 => ?_) (fun h1 => ?_)
      · refine And.intro (fun q => absurd q (by decide)) (fun _ => ?_)
        exact ⟨rfl, c1 ⟨h0, h1⟩⟩
      · refine And.intro (fun _ => ?_) (fun q => absurd (by decide) q)
        exact ⟨rfl, c0 (fun w => h1 (w.2))⟩
    · refine And.intro (fun _ => ?_) (fun q => absurd (by decide) q)
      exact ⟨rfl, c0 (fun w => h0 (w.1))⟩
  · refine Rf.go 200 [] ?_
    refine And.intro (fun q => absurd q (by decide)) (fun _ => ⟨37, rfl, ?_⟩)
    refine m_isOf (d := d) (s := 1) hM hT rfl (by decide) (by omega) (fun h0 => ?_) (fun h0 => ?_)
    · refine And.intro (fun q => absurd q (by decide)) (fun _ => ?_)
      refine m_isOf (d := d) (s := 1) hM hT rfl (by decide) (by omega) (fun h1 => ?_) (fun h1 => ?_)
      · refine And.intro (fun q => absurd q (by decide)) (fun _ => ?_)
        refine m_isOf (d := d) (s := 1) hM hT rfl (by decide) (by omega) (fun h2 => ?_) (fun h2 => ?_)
        · refine And.intro (fun q => absurd q (by decide)) (fun _ => ?_)
          exact ⟨rfl, c1 ⟨h0, h1, h2⟩⟩
        · refine And.intro (fun _ => ?_) (fun q => absurd (by decide) q)
          exact ⟨rfl, c0 (fun w => h2 (w.2.2))⟩
      · refine And.intro (fun _ => ?_) (fun q => absurd (by decide) q)
        exact ⟨rfl, c0 (fun w => h1 (w.2.1))⟩
    · refine And.intro (fun _ => ?_) (fun q => absurd (by decide) q)
      exact ⟨rfl, c0 (fun w => h0 (w.1))⟩
  · refine Rf.go 200 [] ?_
    refine And.intro (fun q => absurd q (by decide)) (fun _ => ⟨56, rfl, ?_⟩)
    refine m_isOf (d := d) (s := 2) hM hT rfl (by decide) (by omega) (fun h0 => ?_) (fun h0 => ?_)
    · refine And.intro (fun q => absurd q (by decide)) (fun _ => ?_)
      refine m_isOf (d := d) (s := 1) hM hT rfl (by decide) (by omega) (fun h1 => ?_) (fun h1 => ?_)
      · refine And.intro (fun q => absurd q (by decide)) (fun _ => ?_)
        exact ⟨rfl, c1 ⟨h0, h1⟩⟩
      · refine And.intro (fun _ => ?_) (fun q => absurd (by decide) q)
        exact ⟨rfl, c0 (fun w => h1 (w.2))⟩
    · refine And.intro (fun _ => ?_) (fun q => absurd (by decide) q)
      exact ⟨rfl, c0 (fun w => h0 (w.1))⟩
  · refine Rf.go 200 [] ?_
    refine And.intro (fun q => absurd q (by decide)) (fun _ => ⟨56, rfl, ?_⟩)
    refine m_isOf (d := d) (s := 2) hM hT rfl (by decide) (by omega) (fun h0 => ?_) (fun h0 => ?_)
    · refine And.intro (fun q => absurd q (by decide)) (fun _ => ?_)
      refine m_isOf (d := d) (s := 1) hM hT rfl (by decide) (by omega) (fun h1 => ?_) (fun h1 => ?_)
      · refine And.intro (fun q => absurd q (by decide)) (fun _ => ?_)
        exact ⟨rfl, c1 ⟨h0, h1⟩⟩
      · refine And.intro (fun _ => ?_) (fun q => absurd (by decide) q)
        exact ⟨rfl, c0 (fun w => h1 (w.2))⟩
    · refine And.intro (fun _ => ?_) (fun q => absurd (by decide) q)
      exact ⟨rfl, c0 (fun w => h0 (w.1))⟩
  · refine Rf.go 200 [] ?_
    refine And.intro (fun q => absurd q (by decide)) (fun _ => ⟨70, rfl, ?_⟩)
    refine m_isRound (d := d) hM hT (by omega) (fun h0 => ?_) (fun h0 => ?_)
    · refine And.intro (fun q => absurd q (by decide)) (fun _ => ?_)
      refine m_isRound (d := d) hM hT (by omega) (fun h1 => ?_) (fun h1 => ?_)
      · refine And.intro (fun q => absurd q (by decide)) (fun _ => ?_)
        refine m_in (d := d) (by omega) (fun h2 => ?_) (fun h2 => ?_)
        · refine And.intro (fun q => absurd q (by decide)) (fun _ => ?_)
          exact ⟨rfl, c1 ⟨h0, h1, ((in_iff (hi := 1) (by decide)).mp h2)⟩⟩
        · refine And.intro (fun _ => ?_) (fun q => absurd (by decide) q)
          exact ⟨rfl, c0 (fun w => h2 ((in_iff (hi := 1) (by decide)).mpr w.2.2))⟩
      · refine And.intro (fun _ => ?_) (fun q => absurd (by decide) q)
        exact ⟨rfl, c0 (fun w => h1 (w.2.1))⟩
    · refine And.intro (fun _ => ?_) (fun q => absurd (by decide) q)
      exact ⟨rfl, c0 (fun w => h0 (w.1))⟩
  · refine Rf.go 200 [] ?_
    refine And.intro (fun _ => ?_) (fun q => absurd (by decide) q)
    refine m_isOf (d := d) (s := 1) hM hT rfl (by decide) (by omega) (fun h0 => ?_) (fun h0 => ?_)
    · refine And.intro (fun q => absurd q (by decide)) (fun _ => ?_)
      refine m_in (d := d) (by omega) (fun h1 => ?_) (fun h1 => ?_)
      · refine And.intro (fun _ => ?_) (fun q => absurd (by decide) q)
        exact ⟨rfl, c1 (Or.inl ⟨h0, (in_iff (hi := 1) (by decide)).mp h1⟩)⟩
      · refine And.intro (fun q => absurd q (by decide)) (fun _ => ?_)
        refine m_isRound (d := d) hM hT (by omega) (fun h2 => ?_) (fun h2 => ?_)
        · refine And.intro (fun q => absurd q (by decide)) (fun _ => ?_)
          refine m_in (d := d) (by omega) (fun h3 => ?_) (fun h3 => ?_)
          · refine And.intro (fun q => absurd q (by decide)) (fun _ => ?_)
            exact ⟨rfl, c1 (Or.inr ⟨h2, (in_iff (hi := 2) (by decide)).mp h3⟩)⟩
          · refine And.intro (fun _ => ?_) (fun q => absurd (by decide) q)
            exact ⟨rfl, c0 (fun w => w.elim (fun w => h1 ((in_iff (hi := 1) (by decide)).mpr w.2)) (fun w => h3 ((in_iff (hi := 2) (by decide)).mpr w.2)))⟩
        · refine And.intro (fun _ => ?_) (fun q => absurd (by decide) q)
          exact ⟨rfl, c0 (fun w => w.elim (fun w => h1 ((in_iff (hi := 1) (by decide)).mpr w.2)) (fun w => h2 w.1))⟩
    · refine And.intro (fun _ => ?_) (fun q => absurd (by decide) q)
      refine m_isRound (d := d) hM hT (by omega) (fun h2 => ?_) (fun h2 => ?_)
      · refine And.intro (fun q => absurd q (by decide)) (fun _ => ?_)
        refine m_in (d := d) (by omega) (fun h3 => ?_) (fun h3 => ?_)
        · refine And.intro (fun q => absurd q (by decide)) (fun _ => ?_)
          exact ⟨rfl, c1 (Or.inr ⟨h2, (in_iff (hi := 2) (by decide)).mp h3⟩)⟩
        · refine And.intro (fun _ => ?_) (fun q => absurd (by decide) q)
          exact ⟨rfl, c0 (fun w => w.elim (fun w => h0 w.1) (fun w => h3 ((in_iff (hi := 2) (by decide)).mpr w.2)))⟩
      · refine And.intro (fun _ => ?_) (fun q => absurd (by decide) q)
        exact ⟨rfl, c0 (fun w => w.elim (fun w => h0 w.1) (fun w => h2 w.1))⟩
theorem m_sizeOf {s d' : Nat} {zs : Int32} {N : Me} {post : Option Value → Me → Prop} (hzs : zs = nI s) (hs : s < 4) (hd : d + 1 ≤ d') (hp : post (some (.int (nI (szs s)))) N) : Ok K d' 124 [.int zs] N post := by
  refine Ok.up (d := d + 1) (post := post) ?_ hd (fun _ _ h => h)
  subst hzs
  refine Ok.go (e := me_124) rfl rfl (Nat.le_of_ble_eq_true rfl) rfl ?_
  rcases (show s = 0 ∨ s = 1 ∨ s = 2 ∨ s = 3 by omega) with rfl | rfl | rfl | rfl
  · refine Rf.go 100 [] ?_
    refine And.intro (fun q => absurd q (by decide)) (fun _ => ?_)
    exact ⟨rfl, hp⟩
  · refine Rf.go 100 [] ?_
    refine And.intro (fun _ => ?_) (fun q => absurd (by decide) q)
    refine And.intro (fun q => absurd q (by decide)) (fun _ => ?_)
    exact ⟨rfl, hp⟩
  · refine Rf.go 100 [] ?_
    refine And.intro (fun _ => ?_) (fun q => absurd (by decide) q)
    refine And.intro (fun _ => ?_) (fun q => absurd (by decide) q)
    exact ⟨rfl, hp⟩
  · refine Rf.go 100 [] ?_
    refine And.intro (fun _ => ?_) (fun q => absurd (by decide) q)
    refine And.intro (fun _ => ?_) (fun q => absurd (by decide) q)
    exact ⟨rfl, hp⟩
end N7
