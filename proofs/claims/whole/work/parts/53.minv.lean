/-! The model's power, inverse, squares -/
section Mi
variable {K : Ka} {d m p h r a b k : Nat} {M : Me} {I : Nat → Nat → Int32} {J : Nat → Nat → Int64} {D : Nat → Nat → Nat} {G : Nat → Nat → Int32}
theorem Gx {v : Nat → Int32} {post : Option Value → Me → Prop} (hp : ∀ (G1 : Nat → Nat → Int32) (J1 : Nat → Nat → Int64), G1 r = v → (∀ s, s ≠ r → G1 s = G s) → post none (St M (rg I m G1) J1)) (J1 : Nat → Nat → Int64) : post none (St M (rg I m (fu G r v)) J1) := hp _ J1 fu_eq (fun _ hs => fu_ne hs)
theorem vE_Em [NeZero p] {X : TR p D k} (hk : k ≤ h) : vE p D h (Em p D k h X) = vE p D k X := funext (fun j => congrArg nI (congrFun (Em_tV hk X) j))
theorem m_timesk [NeZero p] {d' : Nat} {z1 z2 z3 : Int32} {X Y : TR p D k} {post : Option Value → Me → Prop} (hM : MoM M m) (hI : MoI I m p h D) (hk : k ≤ h) (hz1 : z1 = nI r) (hz2 : z2 = nI a) (hz3 : z3 = nI b) (hr : r < 64) (ha : a < 64) (hb : b < 64) (hX : G a = vE p D k X) (hY : G b = vE p D k Y) (hd : d + 1 ≤ d') (hp : ∀ J1, post none (St M (rg I m (fu G r (vE p D k ((TI p D k).mul X Y)))) J1)) : Ok K d' 104 [.ref m, .int z1, .int z2, .int z3] (St M (rg I m G) J) post := by
  refine m_times (d := d) (X := Em p D k h X) (Y := Em p D k h Y) hM hI hz1 hz2 hz3 hr ha hb (hX.trans (vE_Em hk).symm) (hY.trans (vE_Em hk).symm) hd ?_
  rw [← Em_mul hk, vE_Em hk]
  exact hp
-- WRAP BEGIN
theorem x_copy {r a d' : Nat} {z1 z2 : Int32} {post : Option Value → Me → Prop} (hM : MoM M m) (hz1 : z1 = nI r) (hz2 : z2 = nI a) (hr : r < 64) (ha : a < 64) (hd : d + 1 ≤ d') (hp : ∀ (G1 : Nat → Nat → Int32) (J1 : Nat → Nat → Int64), G1 r = (G a) → (∀ s, s ≠ r → G1 s = G s) → post none (St M (rg I m G1) J1)) : Ok K d' 98 [.ref m, .int z1, .int z2] (St M (rg I m G) J) post := m_copy (d := d) hM hz1 hz2 hr ha hd (Gx hp)
theorem x_add [NeZero p] {r a b d' : Nat} {z1 z2 z3 : Int32} {X Y : TR p D h} {post : Option Value → Me → Prop} (hM : MoM M m) (hz1 : z1 = nI r) (hz2 : z2 = nI a) (hz3 : z3 = nI b) (hr : r < 64) (ha : a < 64) (hb : b < 64) (hp0 : I m 0 = nI p) (hpb : p ≤ 32749) (hX : G a = vE p D h X) (hY : G b = vE p D h Y) (hd : d + 1 ≤ d') (hp : ∀ (G1 : Nat → Nat → Int32) (J1 : Nat → Nat → Int64), G1 r = (vE p D h ((TI p D h).add X Y)) → (∀ s, s ≠ r → G1 s = G s) → post none (St M (rg I m G1) J1)) : Ok K d' 99 [.ref m, .int z1, .int z2, .int z3] (St M (rg I m G) J) post := m_add (d := d) hM hz1 hz2 hz3 hr ha hb hp0 hpb hX hY hd (Gx hp)
theorem x_less [NeZero p] {r a b d' : Nat} {z1 z2 z3 : Int32} {X Y : TR p D h} {post : Option Value → Me → Prop} (hM : MoM M m) (hz1 : z1 = nI r) (hz2 : z2 = nI a) (hz3 : z3 = nI b) (hr : r < 64) (ha : a < 64) (hb : b < 64) (hp0 : I m 0 = nI p) (hpb : p ≤ 32749) (hX : G a = vE p D h X) (hY : G b = vE p D h Y) (hd : d + 1 ≤ d') (hp : ∀ (G1 : Nat → Nat → Int32) (J1 : Nat → Nat → Int64), G1 r = (vE p D h ((TI p D h).sub X Y)) → (∀ s, s ≠ r → G1 s = G s) → post none (St M (rg I m G1) J1)) : Ok K d' 100 [.ref m, .int z1, .int z2, .int z3] (St M (rg I m G) J) post := m_less (d := d) hM hz1 hz2 hz3 hr ha hb hp0 hpb hX hY hd (Gx hp)
theorem x_turn [NeZero p] {r a d' : Nat} {z1 z2 : Int32} {X : TR p D h} {post : Option Value → Me → Prop} (hM : MoM M m) (hz1 : z1 = nI r) (hz2 : z2 = nI a) (hr : r < 64) (ha : a < 64) (hp0 : I m 0 = nI p) (hpb : p ≤ 32749) (hX : G a = vE p D h X) (hd : d + 1 ≤ d') (hp : ∀ (G1 : Nat → Nat → Int32) (J1 : Nat → Nat → Int64), G1 r = (vE p D h ((TI p D h).neg X)) → (∀ s, s ≠ r → G1 s = G s) → post none (St M (rg I m G1) J1)) : Ok K d' 101 [.ref m, .int z1, .int z2] (St M (rg I m G) J) post := m_turn (d := d) hM hz1 hz2 hr ha hp0 hpb hX hd (Gx hp)
theorem x_baseAt {r a d' : Nat} {z1 z2 : Int32} {post : Option Value → Me → Prop} (hM : MoM M m) (hz1 : z1 = nI r) (hz2 : z2 = nI a) (hr : r < 64) (ha : a < 3) (hd : d + 1 ≤ d') (hp : ∀ (G1 : Nat → Nat → Int32) (J1 : Nat → Nat → Int64), G1 r = (fun j => I (m + 8) (8 * a + j)) → (∀ s, s ≠ r → G1 s = G s) → post none (St M (rg I m G1) J1)) : Ok K d' 113 [.ref m, .int z1, .int z2] (St M (rg I m G) J) post := m_baseAt (d := d) hM hz1 hz2 hr ha hd (Gx hp)
theorem x_load {r a k d' : Nat} {z1 z2 z3 : Int32} {post : Option Value → Me → Prop} (hM : MoM M m) (hz1 : z1 = nI r) (hz2 : z2 = nI a) (hz3 : z3 = nI k) (hr : r < 64) (ha : a < 60) (hk : k < 3) (hd : d + 1 ≤ d') (hp : ∀ (G1 : Nat → Nat → Int32) (J1 : Nat → Nat → Int64), G1 r = (fun j => I (m + 7) (24 * a + 8 * k + j)) → (∀ s, s ≠ r → G1 s = G s) → post none (St M (rg I m G1) J1)) : Ok K d' 120 [.ref m, .int z1, .int z2, .int z3] (St M (rg I m G) J) post := m_load (d := d) hM hz1 hz2 hz3 hr ha hk hd (Gx hp)
theorem x_set {d' : Nat} {z1 x : Int32} {post : Option Value → Me → Prop} (hM : MoM M m) (hz1 : z1 = nI r) (hr : r < 64) (hd : d + 1 ≤ d') (hp : ∀ (G1 : Nat → Nat → Int32) (J1 : Nat → Nat → Int64), G1 r = (fun j => if j = 0 then x else Int32.ofInt 0) → (∀ s, s ≠ r → G1 s = G s) → post none (St M (rg I m G1) J1)) : Ok K d' 97 [.ref m, .int z1, .int x] (St M (rg I m G) J) post := m_set (d := d) hM hz1 hr hd (Gx hp)
theorem x_setE [NeZero p] {c d' : Nat} {z1 x : Int32} {post : Option Value → Me → Prop} (hM : MoM M m) (hz1 : z1 = nI r) (hx : x = nI c) (hr : r < 64) (hp2 : 2 ≤ p) (hc : c < p) (hd : d + 1 ≤ d') (hp : ∀ (G1 : Nat → Nat → Int32) (J1 : Nat → Nat → Int64), G1 r = (vE p D h (@nm (TR p D h) (TI p D h) c ((TI p D h).ofNat 1).ofNat)) → (∀ s, s ≠ r → G1 s = G s) → post none (St M (rg I m G1) J1)) : Ok K d' 97 [.ref m, .int z1, .int x] (St M (rg I m G) J) post := m_setE (d := d) hM hz1 hx hr hp2 hc hd (Gx hp)
theorem x_set0 [NeZero p] {d' : Nat} {z1 : Int32} {post : Option Value → Me → Prop} (hM : MoM M m) (hz1 : z1 = nI r) (hr : r < 64) (hp2 : 2 ≤ p) (hd : d + 1 ≤ d') (hp : ∀ (G1 : Nat → Nat → Int32) (J1 : Nat → Nat → Int64), G1 r = (vE p D h ((TI p D h).ofNat 0).ofNat) → (∀ s, s ≠ r → G1 s = G s) → post none (St M (rg I m G1) J1)) : Ok K d' 97 [.ref m, .int z1, .int (Int32.ofInt 0)] (St M (rg I m G) J) post := m_set0 (d := d) hM hz1 hr hp2 hd (Gx hp)
theorem x_set1 [NeZero p] {d' : Nat} {z1 : Int32} {post : Option Value → Me → Prop} (hM : MoM M m) (hz1 : z1 = nI r) (hr : r < 64) (hp2 : 2 ≤ p) (hd : d + 1 ≤ d') (hp : ∀ (G1 : Nat → Nat → Int32) (J1 : Nat → Nat → Int64), G1 r = (vE p D h ((TI p D h).ofNat 1).ofNat) → (∀ s, s ≠ r → G1 s = G s) → post none (St M (rg I m G1) J1)) : Ok K d' 97 [.ref m, .int z1, .int (Int32.ofInt 1)] (St M (rg I m G) J) post := m_set1 (d := d) hM hz1 hr hp2 hd (Gx hp)
theorem x_other [NeZero p] {r a d' : Nat} {z1 z2 z3 : Int32} {X : TR p D (k + 1)} {post : Option Value → Me → Prop} (hM : MoM M m) (hz1 : z1 = nI r) (hz2 : z2 = nI a) (hz3 : z3 = nI (k + 1)) (hr : r < 64) (ha : a < 64) (hk : k < 3) (hp0 : I m 0 = nI p) (hpb : p ≤ 32749) (hX : G a = vE p D (k + 1) X) (hd : d + 1 ≤ d') (hp : ∀ (G1 : Nat → Nat → Int32) (J1 : Nat → Nat → Int64), G1 r = (vE p D (k + 1) ((X.1, (TI p D k).neg X.2) : TR p D k × TR p D k)) → (∀ s, s ≠ r → G1 s = G s) → post none (St M (rg I m G1) J1)) : Ok K d' 105 [.ref m, .int z1, .int z2, .int z3] (St M (rg I m G) J) post := m_other (d := d) hM hz1 hz2 hz3 hr ha hk hp0 hpb hX hd (Gx hp)
theorem x_unit [NeZero p] {d' : Nat} {z1 z2 : Int32} {post : Option Value → Me → Prop} (hM : MoM M m) (hz1 : z1 = nI r) (hz2 : z2 = nI (k + 1)) (hr : r < 64) (hk : k < h) (hh : h ≤ 3) (hp2 : 2 ≤ p) (hd : d + 2 ≤ d') (hp : ∀ (G1 : Nat → Nat → Int32) (J1 : Nat → Nat → Int64), G1 r = (vE p D h (oV p D h (un (2 ^ k)))) → (∀ s, s ≠ r → G1 s = G s) → post none (St M (rg I m G1) J1)) : Ok K d' 111 [.ref m, .int z1, .int z2] (St M (rg I m G) J) post := m_unit (d := d) hM hz1 hz2 hr hk hh hp2 hd (Gx hp)
theorem x_times [NeZero p] {d' : Nat} {z1 z2 z3 : Int32} {X Y : TR p D h} {post : Option Value → Me → Prop} (hM : MoM M m) (hI : MoI I m p h D) (hz1 : z1 = nI r) (hz2 : z2 = nI a) (hz3 : z3 = nI b) (hr : r < 64) (ha : a < 64) (hb : b < 64) (hX : G a = vE p D h X) (hY : G b = vE p D h Y) (hd : d + 1 ≤ d') (hp : ∀ (G1 : Nat → Nat → Int32) (J1 : Nat → Nat → Int64), G1 r = (vE p D h ((TI p D h).mul X Y)) → (∀ s, s ≠ r → G1 s = G s) → post none (St M (rg I m G1) J1)) : Ok K d' 104 [.ref m, .int z1, .int z2, .int z3] (St M (rg I m G) J) post := m_times (d := d) hM hI hz1 hz2 hz3 hr ha hb hX hY hd (Gx hp)
theorem x_timesk [NeZero p] {d' : Nat} {z1 z2 z3 : Int32} {X Y : TR p D k} {post : Option Value → Me → Prop} (hM : MoM M m) (hI : MoI I m p h D) (hk : k ≤ h) (hz1 : z1 = nI r) (hz2 : z2 = nI a) (hz3 : z3 = nI b) (hr : r < 64) (ha : a < 64) (hb : b < 64) (hX : G a = vE p D k X) (hY : G b = vE p D k Y) (hd : d + 1 ≤ d') (hp : ∀ (G1 : Nat → Nat → Int32) (J1 : Nat → Nat → Int64), G1 r = (vE p D k ((TI p D k).mul X Y)) → (∀ s, s ≠ r → G1 s = G s) → post none (St M (rg I m G1) J1)) : Ok K d' 104 [.ref m, .int z1, .int z2, .int z3] (St M (rg I m G) J) post := m_timesk (d := d) hM hI hk hz1 hz2 hz3 hr ha hb hX hY hd (Gx hp)
-- WRAP END
theorem lcmp_le0 {n : Nat} (h : n < 2 ^ 31) : cmpI .le (lg_cmp (lN n) (Int64.ofNat 0)) 0 = true ↔ n = 0 := by
  have h1 := lg_cmp_le (lN n) (Int64.ofNat 0)
  have h2 := lN_le (a := n) (b := 0) h (by decide)
  constructor
  · intro q
    have q : lg_cmp (lN n) (Int64.ofNat 0) ≤ 0 := of_decide_eq_true q
    have := h2.mp (h1.mp q)
    omega
  · intro q
    exact decide_eq_true (h1.mpr (h2.mpr (by omega)))
theorem lcmp_ne1 {n : Nat} (h : n < 2 ^ 31) : cmpI .ne (lg_cmp (lN n) (Int64.ofNat 1)) 0 = true ↔ n ≠ 1 := by
  have h1 := lg_cmp_eq (lN n) (Int64.ofNat 1)
  have h2 := lN_eq (a := n) (b := 1) h (by decide)
  constructor
  · intro q e
    have q : ¬ lg_cmp (lN n) (Int64.ofNat 1) = 0 := of_decide_eq_true q
    exact q (h1.mpr (h2.mpr e))
  · intro q
    exact decide_eq_true (fun e => q (h2.mp (h1.mp e)))
set_option maxHeartbeats 2000000 in
theorem m_power {a n d' : Nat} {z : Int32} {y : Int64} {post : Option Value → Me → Prop} (hM : MoM M m) (hz : z = nI a) (hy : y = lN n) (hp0 : I m 0 = nI p) (hp1 : 2 ≤ p) (hp2 : p ≤ 32749) (ha : a < p) (hn : n < 2 ^ 31) (hd : d + 1 ≤ d') (hp : post (some (.int (nI (a ^ n % p)))) (St M I J)) : Ok K d' 96 [.ref m, .int z, .long y] (St M I J) post := by
  refine Ok.up (d := d + 1) (post := post) ?_ hd (fun _ _ h => h)
  subst hz hy
  refine Ok.go (e := me_96) rfl rfl (Nat.le_of_ble_eq_true rfl) hM.c ?_
  have hpn : p < 2 ^ 31 := by omega
  have hp0' : ¬ lN p = 0 := fun q => by
    have := (lN_eq (a := p) (b := 0) hpn (by omega)).mp q
    omega
  have hpe : (I m 0).toInt64 = lN p := by rw [hp0, nI_l hpn]
  have hpz : ¬ (I m 0).toInt64 = 0 := by rw [hpe]; exact hp0'
  have e20 : ¬ Int64.ofNat 2 = 0 := by decide
  refine Rf.go 100 [7] ?_
  refine Rf.weak [(8, .long (lN n)), (6, .long (lN a)), (4, .long (lN 1)), (0, .ref m)] ⟨rfl, congrArg (fun z => some (Value.long z)) (nI_l (by omega)), rfl, rfl, trivial⟩ ?_
  have key : ∀ e, e < 2 ^ 31 → ∀ s r, s < p → r < p → r * s ^ e % p = a ^ n % p → Rf K d mc_96 7 (lk [(8, .long (lN e)), (6, .long (lN s)), (4, .long (lN r)), (0, .ref m)]) [] (St M I J) (fun r M1 => rok me_96.2.2.2.1 r = true ∧ post r M1) := by
    intro e
    induction e using Nat.strongRecOn with
    | ind e ih =>
      intro he s r hs hr hinv
      have e2 : lN e / Int64.ofNat 2 = lN (e / 2) := pk_lDiv (b := 2) (by omega) (by decide) (by decide)
      have e3 : lN e - lN e / Int64.ofNat 2 * Int64.ofNat 2 = lN (e % 2) := pk_lRem (b := 2) (by omega) (by decide) (by decide)
      have hss := sq_lt hs hs hp2
      have hrs := sq_lt hr hs hp2
      have f1 : lN s * lN s - lN s * lN s / (I m 0).toInt64 * (I m 0).toInt64 = lN (s * s % p) := by rw [hpe, lN_mul, pk_lRem (by omega) (by omega) (by omega)]
      have f2 : lN r * lN s - lN r * lN s / (I m 0).toInt64 * (I m 0).toInt64 = lN (r * s % p) := by rw [hpe, lN_mul, pk_lRem (by omega) (by omega) (by omega)]
      have f3 : lN r - lN r / (I m 0).toInt64 * (I m 0).toInt64 = lN (r % p) := by rw [hpe, pk_lRem (by omega) (by omega) (by omega)]
      have hpow : (s * s % p) ^ (e / 2) % p = s ^ (2 * (e / 2)) % p := by rw [← Nat.pow_mod, ← Nat.pow_two, ← Nat.pow_mul]
      have tail : ∀ r2, r2 < p → r2 * s ^ (2 * (e / 2)) % p = a ^ n % p → e ≠ 0 → Rf K d mc_96 25 (lk [(8, .long (lN e)), (6, .long (lN s)), (4, .long (lN r2)), (0, .ref m)]) [] (St M I J) (fun r M1 => rok me_96.2.2.2.1 r = true ∧ post r M1) := by
        intro r2 hr2 hinv2 h0
        refine Rf.go 100 [7] ?_
        refine And.intro hM.c (And.intro hpz ?_)
        refine And.intro e20 ?_
        refine Rf.weak [(8, .long (lN (e / 2))), (6, .long (lN (s * s % p))), (4, .long (lN r2)), (0, .ref m)] ⟨congrArg (fun z => some (Value.long z)) e2, congrArg (fun z => some (Value.long z)) f1, rfl, rfl, trivial⟩ (ih (e / 2) (by omega) (by omega) _ _ (Nat.mod_lt _ (by omega)) hr2 ?_)
        rw [Nat.mul_mod, hpow, ← Nat.mul_mod]
        exact hinv2
      refine Rf.go 100 [7, 25] ?_
      refine And.intro (fun hb => ?_) (fun hb => ?_)
      · have h0 := (lcmp_le0 he).mp hb
        subst h0
        refine And.intro hM.c (And.intro hpz ?_)
        refine ⟨rfl, ?_⟩
        have e9 : (lN r - lN r / (I m 0).toInt64 * (I m 0).toInt64).toInt32 = nI (a ^ n % p) := by
          rw [Nat.pow_zero, Nat.mul_one] at hinv
          rw [f3, lN_i, hinv]
        rw [← e9] at hp
        exact hp
      · have h0 : e ≠ 0 := fun q => hb ((lcmp_le0 he).mpr q)
        refine And.intro e20 ?_
        refine And.intro (fun hc => ?_) (fun hc => ?_)
        · have hc : cmpI .ne (lg_cmp (lN e - lN e / Int64.ofNat 2 * Int64.ofNat 2) (Int64.ofNat 1)) 0 = true := hc
          rw [e3] at hc
          have hev := (lcmp_ne1 (by omega)).mp hc
          refine Rf.weak [(8, .long (lN e)), (6, .long (lN s)), (4, .long (lN r)), (0, .ref m)] ⟨rfl, rfl, rfl, rfl, trivial⟩ (tail r hr ?_ h0)
          rw [show 2 * (e / 2) = e by omega]
          exact hinv
        · have hc : ¬ cmpI .ne (lg_cmp (lN e - lN e / Int64.ofNat 2 * Int64.ofNat 2) (Int64.ofNat 1)) 0 = true := hc
          rw [e3] at hc
          have hod : e % 2 = 1 := Classical.not_not.mp (fun q => hc ((lcmp_ne1 (by omega)).mpr q))
          refine And.intro hM.c (And.intro hpz ?_)
          refine Rf.weak [(8, .long (lN e)), (6, .long (lN s)), (4, .long (lN (r * s % p))), (0, .ref m)] ⟨rfl, rfl, congrArg (fun z => some (Value.long z)) f2, rfl, trivial⟩ (tail (r * s % p) (Nat.mod_lt _ (by omega)) ?_ h0)
          rw [Nat.mod_mul_mod, Nat.mul_assoc, ← Nat.pow_succ', show (2 * (e / 2)).succ = e by omega]
          exact hinv
  exact key n hn a 1 ha (by omega) (by rw [Nat.one_mul])
/-- the inverse from the norms, in one lemma -/
theorem inv_fin [NeZero p] {X V : TR p D h} {N : Fin p} (hp : Pr p) (hodd : p % 2 = 1) (h3 : 3 ≤ p) (hD : tOk p D h) (hinv : (TI p D h).mul X V = Em p D 0 h N) (hnc : N = nc p D h X) : @IsInv (TR p D h) (TI p D h) X ((TI p D h).mul V (@nm (TR p D h) (TI p D h) (N.val ^ (p - 2) % p) ((TI p D h).ofNat 1).ofNat)) := by
  have hF := tw_Fl hp hodd h hD
  have hinv : (TI p D h).mul X V = @nm (TR p D h) (TI p D h) (Fin.val N) ((TI p D h).ofNat 1).ofNat := hinv.trans (Em_zero (D := D) (h := h) (show 2 ≤ p by omega) N)
  have hs : (TI p D h).mul V (@nm (TR p D h) (TI p D h) (N.val ^ (p - 2) % p) ((TI p D h).ofNat 1).ofNat) = @nm (TR p D h) (TI p D h) (N.val ^ (p - 2) % p) V := by
    letI I9 := TI p D h
    show V * nm (N.val ^ (p - 2) % p) 1 = nm (N.val ^ (p - 2) % p) V
    have e : nm (N.val ^ (p - 2) % p) (1 * V) = nm (N.val ^ (p - 2) % p) 1 * V := nm_mulr 1 V _
    rw [show (1 : TR p D h) * V = V by grind] at e
    rw [e]
    grind
  rw [hs]
  constructor
  · intro hX0
    have hz : @nm (TR p D h) (TI p D h) (Fin.val N) ((TI p D h).ofNat 1).ofNat = ((TI p D h).ofNat 0).ofNat := by
      rw [← hinv, hX0]
      exact (TI p D h).zero_mul V
    have h0 := congrArg (fun z => tV p D h z 0) hz
    have h0 : tV p D h (@nm (TR p D h) (TI p D h) (Fin.val N) ((TI p D h).ofNat 1).ofNat) 0 = tV p D h ((TI p D h).ofNat 0).ofNat 0 := h0
    rw [tV_nm, tV_one (by omega), tV_zero, if_pos rfl, Nat.mul_one, Nat.mod_eq_of_lt (Fin.isLt N)] at h0
    rw [h0, Nat.zero_pow (by omega), Nat.zero_mod]
    rfl
  · intro hX0
    have hN0' : ¬ N = (0 : Fin p) := fun q => hX0 (nc_zero hp hodd h hD X (hnc.symm.trans q))
    have h1 : Fin.val N ^ (p - 1) % p = 1 := (fin_pw (p := p) (show 2 ≤ p by omega) N (p - 1)).symm.trans ((congrArg Fin.val (fin_q1 hp hN0')).trans (fin_one hp))
    have hc : Fin.val N * (Fin.val N ^ (p - 2) % p) % p = 1 := by
      rw [Nat.mul_mod_mod, ← Nat.pow_succ', show (p - 2).succ = p - 1 by omega]
      exact h1
    letI I9 := TI p D h
    show X * nm (Fin.val N ^ (p - 2) % p) V = 1
    have e9 : X * nm (Fin.val N ^ (p - 2) % p) V = nm (Fin.val N ^ (p - 2) % p) (X * V) := by
      rw [show X * V = V * X by grind, nm_mulr]
      grind
    rw [e9, show X * V = nm (Fin.val N) 1 from hinv, ← nm_mul, ← nm_modp hF.ch, hc]
    show (0 : TR p D h) + 1 = 1
    grind
/-- all numbers of the model's tower -/
def MoA (I : Nat → Nat → Int32) (m p h : Nat) [NeZero p] (D : Nat → Nat → Nat) : Prop := MoI I m p h D ∧ (∀ i, i < h → ∀ j, j < 8 → I (m + 8) (8 * i + j) = nI (tV p D i (oV p D i (D i)) j)) ∧ tOk p D h ∧ Pr p ∧ p % 2 = 1
theorem MoA.keep [NeZero p] {I1 : Nat → Nat → Int32} (hA : MoA I m p h D) (h0 : I1 m 0 = I m 0) (h1 : I1 m 1 = I m 1) (h8 : I1 (m + 8) = I (m + 8)) (h9 : I1 (m + 9) = I (m + 9)) : MoA I1 m p h D := by
  obtain ⟨⟨a, b, c, d, e⟩, f, g⟩ := hA
  exact ⟨⟨h0.trans a, h1.trans b, c, d, fun i j k hi hj hk => by rw [h9]; exact e i j k hi hj hk⟩, fun i hi j hj => by rw [h8]; exact f i hi j hj, g⟩
theorem en_nrm [NeZero p] (N : TR p D (k + 1)) : (TI p D (k + 1)).mul N ((N.1, (TI p D k).neg N.2) : TR p D k × TR p D k) = (@nrm (TR p D k) (TI p D k) (oV p D k (D k)) N, ((TI p D k).ofNat 0).ofNat) := @conj_nrm (TR p D k) (TI p D k) (oV p D k (D k)) N
theorem vE_fst [NeZero p] (x : TR p D k) : vE p D (k + 1) ((x, ((TI p D k).ofNat 0).ofNat) : TR p D k × TR p D k) = vE p D k x := funext (fun j => congrArg nI (tV_fst (h := k) x j))
set_option maxHeartbeats 4000000 in
theorem m_invert [NeZero p] {d' : Nat} {z1 z2 : Int32} {X : TR p D h} {post : Option Value → Me → Prop} (hM : MoM M m) (hA : MoA I m p h D) (hz1 : z1 = nI r) (hz2 : z2 = nI a) (hr : r < 64) (ha : a < 64) (ha2 : a < 32 ∨ 35 ≤ a) (hX : G a = vE p D h X) (hd : d + 2 ≤ d') (hp : ∀ G1 J1, G1 r = vE p D h (iv p D h X) → (∀ s, s ≠ r → (s < 32 ∨ 35 ≤ s) → G1 s = G s) → post none (St M (rg I m G1) J1)) : Ok K d' 106 [.ref m, .int z1, .int z2] (St M (rg I m G) J) post := by
  refine Ok.up (d := d + 2) (post := post) ?_ hd (fun _ _ h => h)
  subst hz1 hz2
  obtain ⟨hI, hB, hD, hpr, hodd⟩ := hA
  have hpb := hI.2.2.2.1
  have hh3 := hI.2.2.1
  refine Ok.go (e := me_106) rfl rfl (Nat.le_of_ble_eq_true rfl) hM.c ?_
  have key : ∀ k, k ≤ h → ∀ (G1 : Nat → Nat → Int32) (J1 : Nat → Nat → Int64) (N : TR p D k) (V : TR p D h), (∀ s, (s < 32 ∨ 35 ≤ s) → G1 s = G s) → G1 33 = vE p D k N → G1 32 = vE p D h V → (TI p D h).mul X V = Em p D k h N → nc p D k N = nc p D h X → Rf K (d + 1) mc_106 11 (lk [(3, .int (nI k)), (0, .ref m), (1, .int (nI r))]) [] (St M (rg I m G1) J1) (fun r M1 => rok me_106.2.2.2.1 r = true ∧ post r M1) := by
    intro k
    induction k with
    | zero =>
      intro _ G1 J1 N V hfr hN hV hinv hnc
      have hN0 : G1 33 0 = nI (Fin.val N) := by rw [hN]; rfl
      refine Rf.go 100 [] ?_
      refine And.intro (fun _ => ?_) (fun hb => absurd ((le0N (by omega)).mpr rfl) hb)
      refine And.intro hM.c ⟨m + 11, hM.r14, ?_⟩
      refine Or.inr (And.intro ⟨hM.rcg, hM.ing (a := 33) (i := 0) (by decide) (by decide)⟩ ?_)
      refine And.intro hM.c ?_
      have e1 : rg I m G1 (m + 11) 264 = nI (Fin.val N) := (rg_at (r := 33) (j := 0) (by decide)).trans hN0
      have e2 : (rg I m G1 m 0).toInt64 - Int64.ofNat 2 = lN (p - 2) := by rw [rg_m, hI.1, nI_l (by omega)]; exact lN_sub (b := 2) (by omega)
      refine m_power (d := d) (p := p) (a := Fin.val N) (n := p - 2) hM e1 e2 (by rw [rg_m]; exact hI.1) (by omega) hpb.2 (Fin.isLt N) (by omega) (by omega) ?_
      refine x_setE (d := d) (p := p) (D := D) (h := h) (r := 34) (c := Fin.val N ^ (p - 2) % p) hM rfl rfl (by decide) (by omega) (Nat.mod_lt _ (by omega)) (by omega) (fun G2 J2 q2 f2 => ?_)
      refine x_times (d := d) (r := r) (a := 32) (b := 34) hM hI rfl rfl rfl hr (by decide) (by decide) ((f2 32 (by decide)).trans hV) q2 (by omega) (fun G3 J3 q3 f3 => ?_)
      refine ⟨rfl, hp G3 J3 ?_ (fun s h1 h2 => (f3 s h1).trans ((f2 s (by omega)).trans (hfr s h2)))⟩
      rw [iv_is (inv_fin hpr hodd hpb.1 hD hinv hnc)]
      exact q3
    | succ k ih =>
      intro hk G1 J1 N V hfr hN hV hinv hnc
      refine Rf.go 100 [11] ?_
      refine And.intro (fun hb => absurd ((le0N (by omega)).mp hb) (by omega)) (fun _ => ?_)
      refine x_other (d := d) (r := 34) (a := 33) (k := k) hM rfl rfl rfl (by decide) (by decide) (by omega) (by exact hI.1) hpb.2 hN (by omega) (fun G2 J2 q2 f2 => ?_)
      refine x_times (d := d) (r := 32) (a := 32) (b := 34) (X := V) (Y := Em p D (k + 1) h ((N.1, (TI p D k).neg N.2) : TR p D k × TR p D k)) hM hI rfl rfl rfl (by decide) (by decide) (by decide) ((f2 32 (by decide)).trans hV) (q2.trans (vE_Em hk).symm) (by omega) (fun G3 J3 q3 f3 => ?_)
      refine x_timesk (d := d) (r := 33) (a := 33) (b := 34) (X := N) (Y := ((N.1, (TI p D k).neg N.2) : TR p D k × TR p D k)) hM hI hk rfl rfl rfl (by decide) (by decide) (by decide) ((f3 33 (by decide)).trans ((f2 33 (by decide)).trans hN)) ((f3 34 (by decide)).trans q2) (by omega) (fun G4 J4 q4 f4 => ?_)
      have q4 : G4 33 = vE p D (k + 1) ((TI p D (k + 1)).mul N ((N.1, (TI p D k).neg N.2) : TR p D k × TR p D k)) := q4
      rw [en_nrm, vE_fst] at q4
      refine Rf.weak [(3, .int (nI k)), (0, .ref m), (1, .int (nI r))] ⟨dec1 k, rfl, rfl, trivial⟩ ?_
      refine ih (by omega) G4 J4 _ _ (fun s hs => (f4 s (by omega)).trans ((f3 s (by omega)).trans ((f2 s (by omega)).trans (hfr s hs)))) q4 ((f4 32 (by decide)).trans q3) ?_ hnc
      have e9 : (TI p D h).mul X ((TI p D h).mul V (Em p D (k + 1) h ((N.1, (TI p D k).neg N.2) : TR p D k × TR p D k))) = (TI p D h).mul ((TI p D h).mul X V) (Em p D (k + 1) h ((N.1, (TI p D k).neg N.2) : TR p D k × TR p D k)) := ((TI p D h).mul_assoc X V _).symm
      refine (e9.trans ((congrArg (fun z => (TI p D h).mul z (Em p D (k + 1) h ((N.1, (TI p D k).neg N.2) : TR p D k × TR p D k))) hinv).trans ((Em_mul hk N _).symm.trans ((congrArg (Em p D (k + 1) h) (en_nrm N)).trans (Em_fst hk _)))))
  refine Rf.go 100 [11] ?_
  refine x_set1 (d := d) (p := p) (D := D) (h := h) (r := 32) hM rfl (by decide) (by omega) (by omega) (fun G2 J2 q2 f2 => ?_)
  refine x_copy (d := d) (r := 33) (a := a) hM rfl rfl (by decide) ha (by omega) (fun G3 J3 q3 f3 => ?_)
  refine And.intro hM.c ?_
  refine Rf.weak [(3, .int (nI h)), (0, .ref m), (1, .int (nI r))] ⟨congrArg (fun z => some (Value.int z)) (show rg I m G3 m 1 = nI h by rw [rg_m]; exact hI.2.1), rfl, rfl, trivial⟩ ?_
  refine key h (Nat.le_refl h) G3 J3 X ((TI p D h).ofNat 1).ofNat (fun s hs => (f3 s (by omega)).trans (f2 s (by omega))) (q3.trans ((f2 a (by omega)).trans hX)) ((f3 32 (by decide)).trans q2) ?_ rfl
  rw [Em_self]
  exact (TI p D h).mul_one X
set_option maxHeartbeats 4000000 in
theorem m_isSq [NeZero p] {d' : Nat} {z1 z2 : Int32} {X : TR p D k} {post : Option Value → Me → Prop} (hM : MoM M m) (hA : MoA I m p h D) (hz1 : z1 = nI a) (hz2 : z2 = nI k) (ha : a < 64) (ha2 : a < 35 ∨ 37 ≤ a) (hk : k ≤ h) (hX : G a = vE p D k X) (hd : d + 2 ≤ d') (c1 : @Sq (TR p D k) (TI p D k) X → ∀ G1 J1, (∀ s, (s < 35 ∨ 37 ≤ s) → G1 s = G s) → post (some (.int (Int32.ofInt 1))) (St M (rg I m G1) J1)) (c0 : ¬ @Sq (TR p D k) (TI p D k) X → ∀ G1 J1, (∀ s, (s < 35 ∨ 37 ≤ s) → G1 s = G s) → post (some (.int (Int32.ofInt 0))) (St M (rg I m G1) J1)) : Ok K d' 107 [.ref m, .int z1, .int z2] (St M (rg I m G) J) post := by
  refine Ok.up (d := d + 2) (post := post) ?_ hd (fun _ _ h => h)
  subst hz1 hz2
  obtain ⟨hI, hB, hD, hpr, hodd⟩ := hA
  have hpb := hI.2.2.2.1
  have hh3 := hI.2.2.1
  refine Ok.go (e := me_107) rfl rfl (Nat.le_of_ble_eq_true rfl) hM.c ?_
  have hsq := nc_sq hpr hodd k (hD.le hk) X
  have key : ∀ e, e ≤ k → ∀ (G1 : Nat → Nat → Int32) (J1 : Nat → Nat → Int64) (N : TR p D e), (∀ s, (s < 35 ∨ 37 ≤ s) → G1 s = G s) → G1 35 = vE p D e N → nc p D e N = nc p D k X → Rf K (d + 1) mc_107 6 (lk [(3, .int (nI e)), (0, .ref m)]) [] (St M (rg I m G1) J1) (fun r M1 => rok me_107.2.2.2.1 r = true ∧ post r M1) := by
    intro e
    induction e with
    | zero =>
      intro _ G1 J1 N hfr hN hnc
      have hN0 : G1 35 0 = nI (Fin.val N) := by rw [hN]; rfl
      have hNl := Fin.isLt N
      have e1 : rg I m G1 (m + 11) 280 = nI (Fin.val N) := (rg_at (r := 35) (j := 0) (by decide)).trans hN0
      have e3 : (rg I m G1 m 0 - Int32.ofInt 1) / Int32.ofInt 2 = nI ((p - 1) / 2) := by
        rw [rg_m, hI.1, show nI p - Int32.ofInt 1 = nI (p - 1) from pk_sub (b := 1) (by omega)]
        exact pk_div (d := 2) (by omega) (by decide) (by decide)
      have hn : ∀ q : Prop, (Fin.val N = 0 ∨ q) ↔ (nc p D k X = 0 ∨ q) := fun q => by
        rw [← hnc]
        exact or_congr ⟨fun h => Fin.ext h, fun h => congrArg Fin.val h⟩ Iff.rfl
      refine Rf.go 100 [] ?_
      refine And.intro (fun _ => ?_) (fun hb => absurd ((le0N (by omega)).mpr rfl) hb)
      refine And.intro hM.c ⟨m + 11, hM.r14, ?_⟩
      refine Or.inr (And.intro ⟨hM.rcg, hM.ing (a := 35) (i := 0) (by decide) (by decide)⟩ ?_)
      refine And.intro (fun hb => ?_) (fun hb => ?_)
      · have hb : rg I m G1 (m + 11) 280 = 0 := of_decide_eq_true hb
        rw [e1] at hb
        have h0 : Fin.val N = 0 := (nI_eq (b := 0) (by omega) (by omega)).mp hb
        exact ⟨rfl, c1 (hsq.mpr ((hn _).mp (Or.inl h0))) G1 J1 hfr⟩
      · have hb : ¬ rg I m G1 (m + 11) 280 = 0 := fun q => hb (decide_eq_true q)
        rw [e1] at hb
        have h0 : ¬ Fin.val N = 0 := fun q => hb (by rw [q]; rfl)
        refine And.intro hM.c ?_
        refine And.intro (by decide) ?_
        refine m_power (d := d) (p := p) (a := Fin.val N) (n := (p - 1) / 2) hM e1 (by
          show ((rg I m G1 m 0 - Int32.ofInt 1) / Int32.ofInt 2).toInt64 = _
          rw [e3, nI_l (by omega)]) (by rw [rg_m]; exact hI.1) (by omega) hpb.2 hNl (by omega) (by omega) ?_
        have hpv : Fin.val (pw (N : Fin p) ((p - 1) / 2)) = Fin.val N ^ ((p - 1) / 2) % p := fin_pw (p := p) (show 2 ≤ p by omega) N ((p - 1) / 2)
        have hiff : nI (Fin.val N ^ ((p - 1) / 2) % p) = Int32.ofInt 1 ↔ pw (nc p D k X) ((p - 1) / 2) = 1 := by
          rw [← hnc]
          constructor
          · intro q
            have q : Fin.val N ^ ((p - 1) / 2) % p = 1 := (nI_eq (b := 1) (by have := Nat.mod_lt (Fin.val N ^ ((p - 1) / 2)) (show 0 < p by omega); omega) (by omega)).mp q
            exact Fin.ext (hpv.trans (q.trans (fin_one hpr).symm))
          · intro q
            have q := congrArg Fin.val q
            have q : Fin.val N ^ ((p - 1) / 2) % p = 1 := hpv.symm.trans (q.trans (fin_one hpr))
            rw [q]
            rfl
        refine And.intro (fun hc => ?_) (fun hc => ?_)
        · have hc : ¬ nI (Fin.val N ^ ((p - 1) / 2) % p) = Int32.ofInt 1 := of_decide_eq_true hc
          refine ⟨rfl, c0 (fun q => ?_) G1 J1 hfr⟩
          rcases (hn _).mpr (hsq.mp q) with q | q
          · exact h0 q
          · exact hc (hiff.mpr q)
        · have hc : nI (Fin.val N ^ ((p - 1) / 2) % p) = Int32.ofInt 1 := Classical.not_not.mp (fun q => hc (decide_eq_true q))
          exact ⟨rfl, c1 (hsq.mpr (Or.inr (hiff.mp hc))) G1 J1 hfr⟩
    | succ e ih =>
      intro he G1 J1 N hfr hN hnc
      refine Rf.go 100 [6] ?_
      refine And.intro (fun hb => absurd ((le0N (by omega)).mp hb) (by omega)) (fun _ => ?_)
      refine x_other (d := d) (r := 36) (a := 35) (k := e) hM rfl rfl rfl (by decide) (by decide) (by omega) (by exact hI.1) hpb.2 hN (by omega) (fun G2 J2 q2 f2 => ?_)
      refine x_timesk (d := d) (r := 35) (a := 35) (b := 36) (X := N) (Y := ((N.1, (TI p D e).neg N.2) : TR p D e × TR p D e)) hM hI (by omega) rfl rfl rfl (by decide) (by decide) (by decide) ((f2 35 (by decide)).trans hN) q2 (by omega) (fun G3 J3 q3 f3 => ?_)
      have q3 : G3 35 = vE p D (e + 1) ((TI p D (e + 1)).mul N ((N.1, (TI p D e).neg N.2) : TR p D e × TR p D e)) := q3
      rw [en_nrm, vE_fst] at q3
      refine Rf.weak [(3, .int (nI e)), (0, .ref m)] ⟨dec1 e, rfl, trivial⟩ ?_
      exact ih (by omega) G3 J3 _ (fun s hs => (f3 s (by omega)).trans ((f2 s (by omega)).trans (hfr s hs))) q3 hnc
  refine Rf.go 100 [6] ?_
  refine x_copy (d := d) (r := 35) (a := a) hM rfl rfl (by decide) ha (by omega) (fun G2 J2 q2 f2 => ?_)
  refine Rf.weak [(3, .int (nI k)), (0, .ref m)] ⟨rfl, rfl, trivial⟩ ?_
  exact key k (Nat.le_refl k) G2 J2 X (fun s hs => f2 s (by omega)) (q2.trans hX) rfl
end Mi
