/-! The model: printed by mgen.py -/
section N3
variable {K : Ka} {d m p h : Nat} {M : Me} {I : Nat → Nat → Int32} {J : Nat → Nat → Int64} {D : Nat → Nat → Nat} {G : Nat → Nat → Int32}
theorem bmod_64 {x : Int} (h1 : -2147483648 ≤ x) (h2 : x ≤ 2147483647) : x.bmod (2 ^ 64) = x := by
  rw [Int.bmod_def]
  split <;> omega
theorem l_rem (x : Int32) {p : Nat} (hp : 1 < p) (h2 : p < 2 ^ 31) : (x.toInt64 - x.toInt64 / lN p * lN p).toInt = x.toInt.tmod p := by
  obtain ⟨b1, b2⟩ := i_bnd x
  have e := Int.mul_tdiv_add_tmod x.toInt (p : Int)
  have key : (-2147483648 ≤ x.toInt.tdiv p ∧ x.toInt.tdiv p ≤ 2147483647) ∧ (-2147483648 ≤ (p : Int) * x.toInt.tdiv p ∧ (p : Int) * x.toInt.tdiv p ≤ 2147483647) ∧ (-2147483648 ≤ x.toInt.tmod p ∧ x.toInt.tmod p ≤ 2147483647) := by
    have ex : (p : Int) * x.toInt.tdiv p = x.toInt.tdiv p + ((p : Int) - 1) * x.toInt.tdiv p := by
      rw [Int.sub_mul]
      omega
    by_cases hx : 0 ≤ x.toInt
    · have h3 := Int.tmod_nonneg (p : Int) hx
      have h4 : 0 ≤ x.toInt.tdiv p := Int.tdiv_nonneg hx (by omega)
      have h5 : 0 ≤ (p : Int) * x.toInt.tdiv p := Int.mul_nonneg (by omega) h4
      have h6 : 0 ≤ ((p : Int) - 1) * x.toInt.tdiv p := Int.mul_nonneg (by omega) h4
      omega
    · have h3 : x.toInt.tmod p ≤ 0 := by
        have := Int.tmod_nonneg (p : Int) (show 0 ≤ -x.toInt by omega)
        rw [Int.neg_tmod] at this
        omega
      have h4 : 0 ≤ (-x.toInt).tdiv p := Int.tdiv_nonneg (by omega) (by omega)
      rw [Int.neg_tdiv] at h4
      have h5 := Int.mul_nonneg (show 0 ≤ (p : Int) by omega) h4
      have h6 := Int.mul_nonneg (show 0 ≤ (p : Int) - 1 by omega) h4
      rw [Int.mul_neg] at h5 h6
      omega
  rw [Int.mul_comm] at e key
  rw [Int64.toInt_sub, Int64.toInt_mul, Int64.toInt_div, Int32.toInt_toInt64, lN_toInt h2, bmod_64 key.1.1 key.1.2, bmod_64 key.2.1.1 key.2.1.2, show x.toInt - x.toInt.tdiv p * p = x.toInt.tmod p by omega, bmod_64 key.2.2.1 key.2.2.2]
theorem l_rem32 (x : Int32) {p : Nat} (hp : 1 < p) (h2 : p < 2 ^ 31) : (x.toInt64 - x.toInt64 / lN p * lN p).toInt32 = x - x / nI p * nI p := by
  refine i_ext ?_
  have hr := i_rem x hp h2
  have h1 := i_bnd (x - x / nI p * nI p)
  rw [hr] at h1 ⊢
  rw [Int64.toInt_toInt32, l_rem x hp h2, bmod_id h1.1 h1.2]
theorem m_residue {d' : Nat} {x : Int32} {y : Int64} {post : Option Value → Me → Prop} (hM : MoM M m) (hy : y = x.toInt64) (hp0 : I m 0 = nI p) (hp1 : 1 < p) (hp2 : p ≤ 32749) (hd : d + 1 ≤ d') (hp : post (some (.int (nI (rs x p)))) (St M I J)) : Ok K d' 95 [.ref m, .long y] (St M I J) post := by
  refine Ok.up (d := d + 1) (post := post) ?_ hd (fun _ _ h => h)
  subst hy
  have hpe : (I m 0).toInt64 = lN p := by rw [hp0, nI_l (by omega)]
  have hp0' : ¬ lN p = 0 := fun q => by
    have := (lN_eq (a := p) (b := 0) (by omega) (by omega)).mp q
    omega
  have e1 : (x.toInt64 - x.toInt64 / (I m 0).toInt64 * (I m 0).toInt64).toInt32 = x - x / nI p * nI p := by rw [hpe]; exact l_rem32 x hp1 (by omega)
  have hf := i_fmod x hp1 (show p < 2 ^ 31 by omega)
  have hr := i_rem x hp1 (show p < 2 ^ 31 by omega)
  refine Ok.go (e := me_95) rfl rfl (Nat.le_of_ble_eq_true rfl) hM.c ?_
  refine Rf.go 100 [] ?_
  refine And.intro hM.c ?_
  refine And.intro (by show ¬ (I m 0).toInt64 = 0; rw [hpe]; exact hp0') ?_
  refine And.intro (fun hc => ?_) (fun hc => ?_)
  · have hc : (0 : Int32) ≤ (x.toInt64 - x.toInt64 / (I m 0).toInt64 * (I m 0).toInt64).toInt32 := of_decide_eq_true hc
    rw [e1] at hc
    have hn : ¬ ((x ^^^ nI p) < 0 ∧ ¬ (x - x / nI p * nI p) = 0) := fun q => by
      have q1 : x < 0 := (i_xor (by omega)).mp q.1
      have q1 : x.toInt < 0 := (i_neg x 0).mp q1
      have h3 : x.toInt.tmod p ≤ 0 := by
        have := Int.tmod_nonneg (p : Int) (show 0 ≤ -x.toInt by omega)
        rw [Int.neg_tmod] at this
        omega
      have h4 : ¬ (x - x / nI p * nI p) < 0 := Int32.not_lt.mpr hc
      rw [i_neg, hr] at h4
      have h4 : ¬ x.toInt.tmod p < 0 := h4
      exact q.2 (i_ext (by rw [hr]; show x.toInt.tmod p = 0; omega))
    rw [if_neg hn, ← e1] at hf
    rw [← hf] at hp
    exact ⟨rfl, hp⟩
  · have hc : ¬ (0 : Int32) ≤ (x.toInt64 - x.toInt64 / (I m 0).toInt64 * (I m 0).toInt64).toInt32 := fun q => hc (decide_eq_true q)
    rw [e1] at hc
    have hc : (x - x / nI p * nI p) < 0 := Int32.not_le.mp hc
    have hc2 := hc
    rw [i_neg, hr] at hc2
    have hc2 : x.toInt.tmod p < 0 := hc2
    have hx : x < 0 := by
      rw [i_neg]
      show x.toInt < 0
      apply Classical.byContradiction
      intro q
      have := Int.tmod_nonneg (p : Int) (show 0 ≤ x.toInt by omega)
      omega
    have hn : (x ^^^ nI p) < 0 ∧ ¬ (x - x / nI p * nI p) = 0 := ⟨(i_xor (by omega)).mpr hx, fun q => by rw [q] at hc; exact absurd hc (by decide)⟩
    rw [if_pos hn, ← e1, ← hp0] at hf
    refine And.intro hM.c ?_
    rw [← hf] at hp
    exact ⟨rfl, hp⟩
theorem ix24f {t i : Nat} : Int32.ofInt 24 * nI t + nI i = nI (24 * t + i) := by rw [show Int32.ofInt 24 = nI 24 from rfl, pk_mul, nI_add]
set_option maxHeartbeats 2000000 in
theorem m_areOneR {s t d' : Nat} {z1 z2 : Int32} {post : Option Value → Me → Prop} (hM : MoM M m) (hz1 : z1 = nI s) (hz2 : z2 = nI t) (hs : s < 60) (ht : t < 60) (hd : d + 1 ≤ d') (hp : ∀ b : Bool, (b = true ↔ (I (m + 5) s = I (m + 5) t ∧ ∀ j, j < 24 → I (m + 7) (24 * s + j) = I (m + 7) (24 * t + j))) → post (some (.int (bI b))) (St M (rg I m G) J)) : Ok K d' 128 [.ref m, .int z1, .int z2] (St M (rg I m G) J) post := by
  refine Ok.up (d := d + 1) (post := post) ?_ hd (fun _ _ h => h)
  subst hz1 hz2
  have i24 : ∀ a j, a < 60 → j < 24 → inb (Int32.ofInt 24 * nI a + nI j) (mH M (m + 7)).2 = true := fun a j h1 h2 => by
    rw [ix24f, hM.av.2]
    exact inb_n (by omega) (by omega)
  have e24 : ∀ a j, a < 60 → j < 24 → rg I m G (m + 7) (Int32.ofInt 24 * nI a + nI j).toNatClampNeg = I (m + 7) (24 * a + j) := fun a j h1 h2 => by
    rw [ix24f, nI_clamp (by omega), rg_ne (by omega)]
  refine Ok.go (e := me_128) rfl rfl (Nat.le_of_ble_eq_true rfl) hM.c ?_
  have key : ∀ i, i ≤ 24 → ∀ x : Bool, (x = true ↔ (I (m + 5) s = I (m + 5) t ∧ ∀ j, j < i → I (m + 7) (24 * s + j) = I (m + 7) (24 * t + j))) → Rf K d mc_128 15 (lk [(4, .int (nI i)), (3, .int (bI x)), (0, .ref m), (1, .int (nI s)), (2, .int (nI t))]) [] (St M (rg I m G) J) (fun r M1 => rok me_128.2.2.2.1 r = true ∧ post r M1) := by
    refine for_up 24 (fun x hb => ?_) (fun i hi ih x hb => ?_)
    · refine Rf.go 100 [15] ?_
      refine And.intro (fun _ => ?_) (fun q => absurd (by decide) q)
      exact ⟨by cases x <;> rfl, hp x hb⟩
    · refine Rf.go 100 [15] ?_
      refine And.intro (fun q => absurd ((geN (n := 24) (by omega) (by decide)).mp q) (by omega)) (fun _ => ?_)
      cases x with
      | false =>
        refine And.intro (fun _ => ?_) (fun hc => (eq0b hc).elim)
        exact Rf.weak [(4, .int (nI (i + 1))), (3, .int (bI false)), (0, .ref m), (1, .int (nI s)), (2, .int (nI t))] ⟨inc1 i, rfl, rfl, rfl, rfl, trivial⟩ (ih false ⟨fun q => (by cases q), fun q => hb.mpr ⟨q.1, fun j hj => q.2 j (by omega)⟩⟩)
      | true =>
        refine And.intro (fun hc => (eq1b hc).elim) (fun _ => ?_)
        refine And.intro hM.c ⟨m + 7, hM.r10, ?_⟩
        refine Or.inr (And.intro ⟨hM.av.1, i24 s i hs hi⟩ ?_)
        refine And.intro hM.c ⟨m + 7, hM.r10, ?_⟩
        refine Or.inr (And.intro ⟨hM.av.1, i24 t i ht hi⟩ ?_)
        refine And.intro (fun hc => ?_) (fun hc => ?_)
        · have hc : ¬ rg I m G (m + 7) (Int32.ofInt 24 * nI s + nI i).toNatClampNeg = rg I m G (m + 7) (Int32.ofInt 24 * nI t + nI i).toNatClampNeg := of_decide_eq_true hc
          rw [e24 s i hs hi, e24 t i ht hi] at hc
          exact Rf.weak [(4, .int (nI (i + 1))), (3, .int (bI false)), (0, .ref m), (1, .int (nI s)), (2, .int (nI t))] ⟨inc1 i, rfl, rfl, rfl, rfl, trivial⟩ (ih false ⟨fun q => (by cases q), fun q => absurd (q.2 i (by omega)) hc⟩)
        · have hc : rg I m G (m + 7) (Int32.ofInt 24 * nI s + nI i).toNatClampNeg = rg I m G (m + 7) (Int32.ofInt 24 * nI t + nI i).toNatClampNeg := Classical.not_not.mp (fun q => hc (decide_eq_true q))
          rw [e24 s i hs hi, e24 t i ht hi] at hc
          refine Rf.weak [(4, .int (nI (i + 1))), (3, .int (bI true)), (0, .ref m), (1, .int (nI s)), (2, .int (nI t))] ⟨inc1 i, rfl, rfl, rfl, rfl, trivial⟩ (ih true ⟨fun _ => ⟨(hb.mp rfl).1, fun j hj => ?_⟩, fun _ => rfl⟩)
          by_cases e : j = i
          · rw [e]; exact hc
          · exact (hb.mp rfl).2 j (by omega)
  have es : ∀ a, a < 60 → rg I m G (m + 5) (nI a).toNatClampNeg = I (m + 5) a := fun a h => srt_at h
  refine Rf.go 100 [15] ?_
  refine And.intro hM.c ⟨m + 5, hM.r8, ?_⟩
  refine Or.inr (And.intro ⟨(hM.a60 (a := m + 5) (by omega)).1, inb60 (a := 0) hM hs⟩ ?_)
  refine And.intro hM.c ⟨m + 5, hM.r8, ?_⟩
  refine Or.inr (And.intro ⟨(hM.a60 (a := m + 5) (by omega)).1, inb60 (a := 0) hM ht⟩ ?_)
  refine And.intro (fun hc => ?_) (fun hc => ?_)
  · have hc : ¬ rg I m G (m + 5) (nI s).toNatClampNeg = rg I m G (m + 5) (nI t).toNatClampNeg := of_decide_eq_true hc
    rw [es s hs, es t ht] at hc
    exact Rf.weak [(4, .int (nI 0)), (3, .int (bI false)), (0, .ref m), (1, .int (nI s)), (2, .int (nI t))] ⟨rfl, rfl, rfl, rfl, rfl, trivial⟩ (key 0 (by omega) false ⟨fun q => (by cases q), fun q => absurd q.1 hc⟩)
  · have hc : rg I m G (m + 5) (nI s).toNatClampNeg = rg I m G (m + 5) (nI t).toNatClampNeg := Classical.not_not.mp (fun q => hc (decide_eq_true q))
    rw [es s hs, es t ht] at hc
    exact Rf.weak [(4, .int (nI 0)), (3, .int (bI true)), (0, .ref m), (1, .int (nI s)), (2, .int (nI t))] ⟨rfl, rfl, rfl, rfl, rfl, trivial⟩ (key 0 (by omega) true ⟨fun _ => ⟨hc, fun j hj => absurd hj (Nat.not_lt_zero j)⟩, fun _ => rfl⟩)
theorem vE_eq [NeZero p] {X Y : TR p D h} (hh : h ≤ 3) (hp : p ≤ 32749) (he : ∀ j, j < 8 → vE p D h X j = vE p D h Y j) : X = Y := (vE_inj hh hp).mp (s8_iff.mpr he)
theorem m_areOne [NeZero p] {s t d' : Nat} {z1 z2 : Int32} {S0 S1 S2 T0 T1 T2 : TR p D h} {post : Option Value → Me → Prop} (hM : MoM M m) (hh : h ≤ 3) (hpb : p ≤ 32749) (hz1 : z1 = nI s) (hz2 : z2 = nI t) (hs : s < 60) (ht : t < 60) (hse : I (m + 5) s = I (m + 5) t) (hS0 : ∀ j, j < 8 → I (m + 7) (24 * s + 8 * 0 + j) = vE p D h S0 j) (hS1 : ∀ j, j < 8 → I (m + 7) (24 * s + 8 * 1 + j) = vE p D h S1 j) (hS2 : ∀ j, j < 8 → I (m + 7) (24 * s + 8 * 2 + j) = vE p D h S2 j) (hT0 : ∀ j, j < 8 → I (m + 7) (24 * t + 8 * 0 + j) = vE p D h T0 j) (hT1 : ∀ j, j < 8 → I (m + 7) (24 * t + 8 * 1 + j) = vE p D h T1 j) (hT2 : ∀ j, j < 8 → I (m + 7) (24 * t + 8 * 2 + j) = vE p D h T2 j) (hd : d + 1 ≤ d') (c1 : S0 = T0 ∧ S1 = T1 ∧ S2 = T2 → post (some (.int (Int32.ofInt 1))) (St M (rg I m G) J)) (c0 : ¬ (S0 = T0 ∧ S1 = T1 ∧ S2 = T2) → post (some (.int (Int32.ofInt 0))) (St M (rg I m G) J)) : Ok K d' 128 [.ref m, .int z1, .int z2] (St M (rg I m G) J) post := by
  refine m_areOneR (d := d) hM hz1 hz2 hs ht hd (fun b hb => ?_)
  have hiff : b = true ↔ (S0 = T0 ∧ S1 = T1 ∧ S2 = T2) := by
    rw [hb]
    constructor
    · rintro ⟨-, q⟩
      refine ⟨vE_eq hh hpb (fun j hj => ?_), vE_eq hh hpb (fun j hj => ?_), vE_eq hh hpb (fun j hj => ?_)⟩
      · rw [← hS0 j hj, ← hT0 j hj, Nat.add_assoc (24 * s), Nat.add_assoc (24 * t)]; exact q (8 * 0 + j) (by omega)
      · rw [← hS1 j hj, ← hT1 j hj, Nat.add_assoc (24 * s), Nat.add_assoc (24 * t)]; exact q (8 * 1 + j) (by omega)
      · rw [← hS2 j hj, ← hT2 j hj, Nat.add_assoc (24 * s), Nat.add_assoc (24 * t)]; exact q (8 * 2 + j) (by omega)
    · rintro ⟨rfl, rfl, rfl⟩
      refine ⟨hse, fun j hj => ?_⟩
      rcases (show j < 8 ∨ (8 ≤ j ∧ j < 16) ∨ 16 ≤ j by omega) with q | q | q
      · have e1 := hS0 j q
        have e2 := hT0 j q
        rw [show 24 * s + 8 * 0 + j = 24 * s + j by omega] at e1
        rw [show 24 * t + 8 * 0 + j = 24 * t + j by omega] at e2
        rw [e1, e2]
      · have e1 := hS1 (j - 8) (by omega)
        have e2 := hT1 (j - 8) (by omega)
        rw [show 24 * s + 8 * 1 + (j - 8) = 24 * s + j by omega] at e1
        rw [show 24 * t + 8 * 1 + (j - 8) = 24 * t + j by omega] at e2
        rw [e1, e2]
      · have e1 := hS2 (j - 16) (by omega)
        have e2 := hT2 (j - 16) (by omega)
        rw [show 24 * s + 8 * 2 + (j - 16) = 24 * s + j by omega] at e1
        rw [show 24 * t + 8 * 2 + (j - 16) = 24 * t + j by omega] at e2
        rw [e1, e2]
  cases b with
  | true => exact c1 (hiff.mp rfl)
  | false => exact c0 (fun q => by cases hiff.mpr q)
theorem OutM.from [NeZero p] {I0 I1 G1 : Nat → Nat → Int32} {so : Int32} {sz h0 : Nat} {R : Rz} (hf : FrX I0 I m) (ho : OutM I I1 G1 m p h0 sz so R) : OutM I0 I1 G1 m p h0 sz so R := ⟨ho.1, ho.2.1, ho.2.2.1, hf.trans ho.2.2.2⟩
theorem cr1 {R : Type} [Lean.Grind.CommRing R] (a b c e : R) : a * b - c * e = a * b - e * c := by grind
theorem cr3 {R : Type} [Lean.Grind.CommRing R] (a b c e s t : R) : 0 + a * a - b * b + c * c - e * e - s + t = a * a + c * c - s - (b * b + e * e - t) := by grind
set_option maxHeartbeats 4000000 in
theorem M134_0 [NeZero p] {l k d' : Nat} {z0 z1 z2 : Int32} {L0 L1 L2 M0 M1 M2 : TR p D h} {post : Option Value → Me → Prop} (hM : MoM M m) (hA : MoA I m p h D) (hz0 : z0 = nI l) (hz1 : z1 = nI k) (hz2 : z2 = nI 0) (hl : l < 60) (hk : k < 60) (hL0 : ∀ j, j < 8 → I (m + 7) (24 * l + 8 * 0 + j) = vE p D h L0 j) (hL1 : ∀ j, j < 8 → I (m + 7) (24 * l + 8 * 1 + j) = vE p D h L1 j) (hL2 : ∀ j, j < 8 → I (m + 7) (24 * l + 8 * 2 + j) = vE p D h L2 j) (hM0 : ∀ j, j < 8 → I (m + 7) (24 * k + 8 * 0 + j) = vE p D h M0 j) (hM1 : ∀ j, j < 8 → I (m + 7) (24 * k + 8 * 1 + j) = vE p D h M1 j) (hM2 : ∀ j, j < 8 → I (m + 7) (24 * k + 8 * 2 + j) = vE p D h M2 j) (hse : I (m + 5) l = I (m + 5) k) (h17 : I m 17 = nI 0) (hcr : ((TI p D h).sub ((TI p D h).mul L0 M1) ((TI p D h).mul L1 M0)) = ((TI p D h).ofNat 0).ofNat ↔ (L0 = M0 ∧ L1 = M1)) (hd : d + 4 ≤ d') (hp : ∀ I1 G1 J1, OutM I I1 G1 m p h 2 (Int32.ofInt 1) (mlF p D h L0 L1 L2 M0 M1 M2 0) → post (some (.int (mlF p D h L0 L1 L2 M0 M1 M2 0).1)) (St M (rg I1 m G1) J1)) : Ok K d' 134 [.ref m, .int z0, .int z1, .int z2] (St M (rg I m G) J) post := by
  refine Ok.up (d := d + 4) (post := post) ?_ hd (fun _ _ h => h)
  subst hz0 hz1 hz2
  refine Ok.go (e := me_134) rfl rfl (Nat.le_of_ble_eq_true rfl) hM.c ?_
  refine Rf.go 250 [79] ?_
  refine m_areOne (d := d) (s := l) (t := k) hM hA.1.2.2.1 hA.1.2.2.2.1.2 rfl rfl (by omega) (by omega) hse hL0 hL1 hL2 hM0 hM1 hM2 (by omega) (fun z1 => ?_) (fun z1 => ?_)
  · refine And.intro (fun hb => absurd hb (by decide)) (fun _ => ?_)
    rw [mlF_1 ⟨z1.1, z1.2.1⟩ z1.2.2] at hp
    exact ⟨rfl, hp I G J (OutM.no (by decide) hA h17 FrX.refl)⟩
  · refine And.intro (fun _ => ?_) (fun hb => absurd (by decide) hb)
    refine And.intro (fun hb => absurd hb (by decide)) (fun _ => ?_)
    refine x_loadE (d := d) (r := 6) (a := l) (k := 0) (v := vE p D h L0) hM (by decide) rfl rfl (by decide) (by omega) (by omega) hL0 (by omega) (fun G2 J2 q2 f2 => ?_)
    refine x_loadE (d := d) (r := 9) (a := k) (k := 0) (v := vE p D h M0) hM (by decide) rfl rfl (by decide) (by omega) (by omega) hM0 (by omega) (fun G3 J3 q3 f3 => ?_)
    refine And.intro (fun hb => absurd hb (by decide)) (fun _ => ?_)
    refine x_loadE (d := d) (r := 7) (a := l) (k := 1) (v := vE p D h L1) hM (by decide) rfl (by decide) (by decide) (by omega) (by omega) hL1 (by omega) (fun G4 J4 q4 f4 => ?_)
    refine x_loadE (d := d) (r := 10) (a := k) (k := 1) (v := vE p D h M1) hM (by decide) rfl (by decide) (by decide) (by omega) (by omega) hM1 (by omega) (fun G5 J5 q5 f5 => ?_)
    refine And.intro (fun hb => absurd hb (by decide)) (fun _ => ?_)
    refine x_loadE (d := d) (r := 8) (a := l) (k := 2) (v := vE p D h L2) hM (by decide) rfl (by decide) (by decide) (by omega) (by omega) hL2 (by omega) (fun G6 J6 q6 f6 => ?_)
    refine x_loadE (d := d) (r := 11) (a := k) (k := 2) (v := vE p D h M2) hM (by decide) rfl (by decide) (by decide) (by omega) (by omega) hM2 (by omega) (fun G7 J7 q7 f7 => ?_)
    refine And.intro (fun _ => ?_) (fun hb => absurd (by decide) hb)
    have q8 := ((f7 6 (by decide)).trans ((f6 6 (by decide)).trans ((f5 6 (by decide)).trans ((f4 6 (by decide)).trans ((f3 6 (by decide)).trans q2)))))
    have q9 := ((f7 10 (by decide)).trans ((f6 10 (by decide)).trans q5))
    have q10 := ((f7 9 (by decide)).trans ((f6 9 (by decide)).trans ((f5 9 (by decide)).trans ((f4 9 (by decide)).trans q3))))
    have q11 := ((f7 7 (by decide)).trans ((f6 7 (by decide)).trans ((f5 7 (by decide)).trans q4)))
    refine M135_46 (d := d) hM hA rfl rfl rfl rfl rfl q8 q9 q10 q11 (by omega) (fun G12 J12 q12 f12 => ?_)
    rw [show ((TI p D h).sub ((TI p D h).mul L0 M1) ((TI p D h).mul M0 L1)) = ((TI p D h).sub ((TI p D h).mul L0 M1) ((TI p D h).mul L1 M0)) from @cr1 (TR p D h) (TI p D h) _ _ _ _] at q12
    refine m_isZero (d := d) (a := 46) hM rfl (by decide) hA.1.2.2.1 hA.1.2.2.2.1.2 q12 (by omega) (fun z13 => ?_) (fun z13 => ?_)
    · refine And.intro (fun _ => ?_) (fun hb => absurd (by decide) hb)
      rw [mlF_2 (hcr.mp z13) (fun w => z1 ⟨(hcr.mp z13).1, (hcr.mp z13).2, w⟩)] at hp
      exact ⟨rfl, hp I G12 J12 (OutM.no (by decide) hA h17 FrX.refl)⟩
    · refine And.intro (fun hb => absurd hb (by decide)) (fun _ => ?_)
      refine And.intro (fun _ => ?_) (fun hb => absurd (by decide) hb)
      have q14 := ((f12 7 (by decide) (by decide) (by decide)).trans q11)
      have q15 := ((f12 11 (by decide) (by decide) (by decide)).trans q7)
      have q16 := ((f12 10 (by decide) (by decide) (by decide)).trans q9)
      have q17 := ((f12 8 (by decide) (by decide) (by decide)).trans ((f7 8 (by decide)).trans q6))
      refine M135_47 (d := d) hM hA rfl rfl rfl rfl rfl q14 q15 q16 q17 (by omega) (fun G18 J18 q18 f18 => ?_)
      rw [show ((TI p D h).sub ((TI p D h).mul L1 M2) ((TI p D h).mul M1 L2)) = ((TI p D h).sub ((TI p D h).mul L1 M2) ((TI p D h).mul L2 M1)) from @cr1 (TR p D h) (TI p D h) _ _ _ _] at q18
      have q19 := ((f18 8 (by decide) (by decide) (by decide)).trans q17)
      have q20 := ((f18 9 (by decide) (by decide) (by decide)).trans ((f12 9 (by decide) (by decide) (by decide)).trans q10))
      have q21 := ((f18 11 (by decide) (by decide) (by decide)).trans q15)
      have q22 := ((f18 6 (by decide) (by decide) (by decide)).trans ((f12 6 (by decide) (by decide) (by decide)).trans q8))
      refine M135_48 (d := d) hM hA rfl rfl rfl rfl rfl q19 q20 q21 q22 (by omega) (fun G23 J23 q23 f23 => ?_)
      rw [show ((TI p D h).sub ((TI p D h).mul L2 M0) ((TI p D h).mul M2 L0)) = ((TI p D h).sub ((TI p D h).mul L2 M0) ((TI p D h).mul L0 M2)) from @cr1 (TR p D h) (TI p D h) _ _ _ _] at q23
      have q24 := ((f23 46 (by decide) (by decide) (by decide)).trans ((f18 46 (by decide) (by decide) (by decide)).trans q12))
      refine m_invert (d := d) (r := 46) (a := 46) hM hA rfl rfl (by decide) (by decide) (by decide) q24 (by omega) (fun G25 J25 q25 f25 => ?_)
      have q26 := ((f25 47 (by decide) (by decide)).trans ((f23 47 (by decide) (by decide) (by decide)).trans q18))
      refine x_times (d := d) (r := 0) (a := 47) (b := 46) hM hA.1 rfl rfl rfl (by decide) (by decide) (by decide) q26 q25 (by omega) (fun G27 J27 q27 f27 => ?_)
      have q28 := ((f27 48 (by decide)).trans ((f25 48 (by decide) (by decide)).trans q23))
      have q29 := ((f27 46 (by decide)).trans q25)
      refine x_times (d := d) (r := 1) (a := 48) (b := 46) hM hA.1 rfl rfl rfl (by decide) (by decide) (by decide) q28 q29 (by omega) (fun G30 J30 q30 f30 => ?_)
      refine x_set0 (d := d) (p := p) (D := D) (h := h) (r := 2) hM rfl (by decide) (by have := hA.1.2.2.2.1.1; omega) (by omega) (fun G31 J31 q31 f31 => ?_)
      refine And.intro hM.c ?_
      refine Rf.put ?_
      refine Rf.go 250 [79] ?_
      have hA32 := hA.put (x := Int32.ofInt 1) (q := 16) (by decide) (by decide)
      have q33 := ((f31 0 (by decide)).trans ((f30 0 (by decide)).trans q27))
      have q34 := ((f31 1 (by decide)).trans q30)
      rw [mlF_4 (fun w => z13 (hcr.mpr w)) rfl] at hp
      exact ⟨rfl, hp (u2 I m 16 (Int32.ofInt 1)) G31 J31 (OutM.r2 hA32 q33 q34 (by rw [u2_at, if_pos rfl]) (by rw [u2_at, if_neg (by decide), h17, Nat.sub_self]) (FrX.refl.put (Or.inl rfl)))⟩
set_option maxHeartbeats 4000000 in
theorem M134_1 [NeZero p] {l k d' : Nat} {z0 z1 z2 : Int32} {L0 L1 L2 M0 M1 M2 : TR p D h} {post : Option Value → Me → Prop} (hM : MoM M m) (hA : MoA I m p h D) (hz0 : z0 = nI l) (hz1 : z1 = nI k) (hz2 : z2 = nI 1) (hl : l < 60) (hk : k < 60) (hL0 : ∀ j, j < 8 → I (m + 7) (24 * l + 8 * 0 + j) = vE p D h L0 j) (hL1 : ∀ j, j < 8 → I (m + 7) (24 * l + 8 * 1 + j) = vE p D h L1 j) (hL2 : ∀ j, j < 8 → I (m + 7) (24 * l + 8 * 2 + j) = vE p D h L2 j) (hM0 : ∀ j, j < 8 → I (m + 7) (24 * k + 8 * 0 + j) = vE p D h M0 j) (hM1 : ∀ j, j < 8 → I (m + 7) (24 * k + 8 * 1 + j) = vE p D h M1 j) (hM2 : ∀ j, j < 8 → I (m + 7) (24 * k + 8 * 2 + j) = vE p D h M2 j) (hse : I (m + 5) l = I (m + 5) k) (h17 : I m 17 = nI 0) (hcr : ((TI p D h).sub ((TI p D h).mul L0 M1) ((TI p D h).mul L1 M0)) = ((TI p D h).ofNat 0).ofNat ↔ (L0 = M0 ∧ L1 = M1)) (hd : d + 4 ≤ d') (hp : ∀ I1 G1 J1, OutM I I1 G1 m p h 2 (Int32.ofInt 1) (mlF p D h L0 L1 L2 M0 M1 M2 1) → post (some (.int (mlF p D h L0 L1 L2 M0 M1 M2 1).1)) (St M (rg I1 m G1) J1)) : Ok K d' 134 [.ref m, .int z0, .int z1, .int z2] (St M (rg I m G) J) post := by
  refine Ok.up (d := d + 4) (post := post) ?_ hd (fun _ _ h => h)
  subst hz0 hz1 hz2
  refine Ok.go (e := me_134) rfl rfl (Nat.le_of_ble_eq_true rfl) hM.c ?_
  refine Rf.go 250 [79] ?_
  refine m_areOne (d := d) (s := l) (t := k) hM hA.1.2.2.1 hA.1.2.2.2.1.2 rfl rfl (by omega) (by omega) hse hL0 hL1 hL2 hM0 hM1 hM2 (by omega) (fun z1 => ?_) (fun z1 => ?_)
  · refine And.intro (fun hb => absurd hb (by decide)) (fun _ => ?_)
    rw [mlF_1 ⟨z1.1, z1.2.1⟩ z1.2.2] at hp
    exact ⟨rfl, hp I G J (OutM.no (by decide) hA h17 FrX.refl)⟩
  · refine And.intro (fun _ => ?_) (fun hb => absurd (by decide) hb)
    refine And.intro (fun hb => absurd hb (by decide)) (fun _ => ?_)
    refine x_loadE (d := d) (r := 6) (a := l) (k := 0) (v := vE p D h L0) hM (by decide) rfl rfl (by decide) (by omega) (by omega) hL0 (by omega) (fun G2 J2 q2 f2 => ?_)
    refine x_loadE (d := d) (r := 9) (a := k) (k := 0) (v := vE p D h M0) hM (by decide) rfl rfl (by decide) (by omega) (by omega) hM0 (by omega) (fun G3 J3 q3 f3 => ?_)
    refine And.intro (fun hb => absurd hb (by decide)) (fun _ => ?_)
    refine x_loadE (d := d) (r := 7) (a := l) (k := 1) (v := vE p D h L1) hM (by decide) rfl (by decide) (by decide) (by omega) (by omega) hL1 (by omega) (fun G4 J4 q4 f4 => ?_)
    refine x_loadE (d := d) (r := 10) (a := k) (k := 1) (v := vE p D h M1) hM (by decide) rfl (by decide) (by decide) (by omega) (by omega) hM1 (by omega) (fun G5 J5 q5 f5 => ?_)
    refine And.intro (fun hb => absurd hb (by decide)) (fun _ => ?_)
    refine x_loadE (d := d) (r := 8) (a := l) (k := 2) (v := vE p D h L2) hM (by decide) rfl (by decide) (by decide) (by omega) (by omega) hL2 (by omega) (fun G6 J6 q6 f6 => ?_)
    refine x_loadE (d := d) (r := 11) (a := k) (k := 2) (v := vE p D h M2) hM (by decide) rfl (by decide) (by decide) (by omega) (by omega) hM2 (by omega) (fun G7 J7 q7 f7 => ?_)
    refine And.intro (fun _ => ?_) (fun hb => absurd (by decide) hb)
    have q8 := ((f7 6 (by decide)).trans ((f6 6 (by decide)).trans ((f5 6 (by decide)).trans ((f4 6 (by decide)).trans ((f3 6 (by decide)).trans q2)))))
    have q9 := ((f7 10 (by decide)).trans ((f6 10 (by decide)).trans q5))
    have q10 := ((f7 9 (by decide)).trans ((f6 9 (by decide)).trans ((f5 9 (by decide)).trans ((f4 9 (by decide)).trans q3))))
    have q11 := ((f7 7 (by decide)).trans ((f6 7 (by decide)).trans ((f5 7 (by decide)).trans q4)))
    refine M135_46 (d := d) hM hA rfl rfl rfl rfl rfl q8 q9 q10 q11 (by omega) (fun G12 J12 q12 f12 => ?_)
    rw [show ((TI p D h).sub ((TI p D h).mul L0 M1) ((TI p D h).mul M0 L1)) = ((TI p D h).sub ((TI p D h).mul L0 M1) ((TI p D h).mul L1 M0)) from @cr1 (TR p D h) (TI p D h) _ _ _ _] at q12
    refine m_isZero (d := d) (a := 46) hM rfl (by decide) hA.1.2.2.1 hA.1.2.2.2.1.2 q12 (by omega) (fun z13 => ?_) (fun z13 => ?_)
    · refine And.intro (fun _ => ?_) (fun hb => absurd (by decide) hb)
      rw [mlF_2 (hcr.mp z13) (fun w => z1 ⟨(hcr.mp z13).1, (hcr.mp z13).2, w⟩)] at hp
      exact ⟨rfl, hp I G12 J12 (OutM.no (by decide) hA h17 FrX.refl)⟩
    · refine And.intro (fun hb => absurd hb (by decide)) (fun _ => ?_)
      refine And.intro (fun hb => absurd hb (by decide)) (fun _ => ?_)
      rw [mlF_3 (fun w => z13 (hcr.mpr w)) (by decide)] at hp
      exact ⟨rfl, hp I G12 J12 (OutM.no (by decide) hA h17 FrX.refl)⟩
set_option maxHeartbeats 4000000 in
theorem M131_1 [NeZero p] {a1 b1 d' : Nat} {z0 z1 z2 : Int32} {A B : TR p D h} {post : Option Value → Me → Prop} (hM : MoM M m) (hA : MoA I m p h D) (hz0 : z0 = nI 1) (hz1 : z1 = nI a1) (hz2 : z2 = nI b1) (ha : a1 < 60) (hb : b1 < 60) (hA0 : ∀ j, j < 8 → I (m + 7) (24 * a1 + 8 * 0 + j) = vE p D h A j) (hB0 : ∀ j, j < 8 → I (m + 7) (24 * b1 + 8 * 0 + j) = vE p D h B j) (h16 : I m 16 = Int32.ofInt 0) (h17 : I m 17 = nI 0) (hd : d + 4 ≤ d') (hp : ∀ I1 G1 J1, OutM I I1 G1 m p h 1 (Int32.ofInt 0) (nk1 p D h A B) → post (some (.int (nk1 p D h A B).1)) (St M (rg I1 m G1) J1)) : Ok K d' 131 [.ref m, .int z0, .int z1, .int z2] (St M (rg I m G) J) post := by
  refine Ok.up (d := d + 4) (post := post) ?_ hd (fun _ _ h => h)
  subst hz0 hz1 hz2
  refine Ok.go (e := me_131) rfl rfl (Nat.le_of_ble_eq_true rfl) hM.c ?_
  refine Rf.go 250 [] ?_
  refine x_loadE (d := d) (r := 3) (a := a1) (k := 0) (v := vE p D h A) hM rfl rfl rfl (by decide) (by omega) (by omega) hA0 (by omega) (fun G1 J1 q1 f1 => ?_)
  refine x_loadE (d := d) (r := 4) (a := b1) (k := 0) (v := vE p D h B) hM rfl rfl rfl (by decide) (by omega) (by omega) hB0 (by omega) (fun G2 J2 q2 f2 => ?_)
  refine And.intro (fun _ => ?_) (fun hb => absurd (by decide) hb)
  refine And.intro (fun hb => absurd hb (by decide)) (fun _ => ?_)
  have q3 := ((f2 3 (by decide)).trans q1)
  refine x_add (d := d) (r := 0) (a := 3) (b := 4) hM rfl rfl rfl (by decide) (by decide) (by decide) hA.1.1 hA.1.2.2.2.1.2 q3 q2 (by omega) (fun G4 J4 q4 f4 => ?_)
  exact ⟨rfl, hp I G4 J4 (OutM.r1 hA q4 h16 (by rw [h17, Nat.sub_self]) FrX.refl)⟩
set_option maxHeartbeats 4000000 in
theorem M131_2 [NeZero p] {a1 b1 d' : Nat} {z0 z1 z2 : Int32} {A B : TR p D h} {post : Option Value → Me → Prop} (hM : MoM M m) (hA : MoA I m p h D) (hz0 : z0 = nI 2) (hz1 : z1 = nI a1) (hz2 : z2 = nI b1) (ha : a1 < 60) (hb : b1 < 60) (hA0 : ∀ j, j < 8 → I (m + 7) (24 * a1 + 8 * 0 + j) = vE p D h A j) (hB0 : ∀ j, j < 8 → I (m + 7) (24 * b1 + 8 * 0 + j) = vE p D h B j) (h16 : I m 16 = Int32.ofInt 0) (h17 : I m 17 = nI 0) (hd : d + 4 ≤ d') (hp : ∀ I1 G1 J1, OutM I I1 G1 m p h 1 (Int32.ofInt 0) (nk2 p D h A B) → post (some (.int (nk2 p D h A B).1)) (St M (rg I1 m G1) J1)) : Ok K d' 131 [.ref m, .int z0, .int z1, .int z2] (St M (rg I m G) J) post := by
  refine Ok.up (d := d + 4) (post := post) ?_ hd (fun _ _ h => h)
  subst hz0 hz1 hz2
  refine Ok.go (e := me_131) rfl rfl (Nat.le_of_ble_eq_true rfl) hM.c ?_
  refine Rf.go 250 [] ?_
  refine x_loadE (d := d) (r := 3) (a := a1) (k := 0) (v := vE p D h A) hM rfl rfl rfl (by decide) (by omega) (by omega) hA0 (by omega) (fun G1 J1 q1 f1 => ?_)
  refine x_loadE (d := d) (r := 4) (a := b1) (k := 0) (v := vE p D h B) hM rfl rfl rfl (by decide) (by omega) (by omega) hB0 (by omega) (fun G2 J2 q2 f2 => ?_)
  refine And.intro (fun _ => ?_) (fun hb => absurd (by decide) hb)
  refine And.intro (fun _ => ?_) (fun hb => absurd (by decide) hb)
  refine And.intro (fun hb => absurd hb (by decide)) (fun _ => ?_)
  have q3 := ((f2 3 (by decide)).trans q1)
  refine x_less (d := d) (r := 0) (a := 3) (b := 4) hM rfl rfl rfl (by decide) (by decide) (by decide) hA.1.1 hA.1.2.2.2.1.2 q3 q2 (by omega) (fun G4 J4 q4 f4 => ?_)
  exact ⟨rfl, hp I G4 J4 (OutM.r1 hA q4 h16 (by rw [h17, Nat.sub_self]) FrX.refl)⟩
set_option maxHeartbeats 4000000 in
theorem M131_3 [NeZero p] {a1 b1 d' : Nat} {z0 z1 z2 : Int32} {A B : TR p D h} {post : Option Value → Me → Prop} (hM : MoM M m) (hA : MoA I m p h D) (hz0 : z0 = nI 3) (hz1 : z1 = nI a1) (hz2 : z2 = nI b1) (ha : a1 < 60) (hb : b1 < 60) (hA0 : ∀ j, j < 8 → I (m + 7) (24 * a1 + 8 * 0 + j) = vE p D h A j) (hB0 : ∀ j, j < 8 → I (m + 7) (24 * b1 + 8 * 0 + j) = vE p D h B j) (h16 : I m 16 = Int32.ofInt 0) (h17 : I m 17 = nI 0) (hd : d + 4 ≤ d') (hp : ∀ I1 G1 J1, OutM I I1 G1 m p h 1 (Int32.ofInt 0) (nk3 p D h A B) → post (some (.int (nk3 p D h A B).1)) (St M (rg I1 m G1) J1)) : Ok K d' 131 [.ref m, .int z0, .int z1, .int z2] (St M (rg I m G) J) post := by
  refine Ok.up (d := d + 4) (post := post) ?_ hd (fun _ _ h => h)
  subst hz0 hz1 hz2
  refine Ok.go (e := me_131) rfl rfl (Nat.le_of_ble_eq_true rfl) hM.c ?_
  refine Rf.go 250 [] ?_
  refine x_loadE (d := d) (r := 3) (a := a1) (k := 0) (v := vE p D h A) hM rfl rfl rfl (by decide) (by omega) (by omega) hA0 (by omega) (fun G1 J1 q1 f1 => ?_)
  refine x_loadE (d := d) (r := 4) (a := b1) (k := 0) (v := vE p D h B) hM rfl rfl rfl (by decide) (by omega) (by omega) hB0 (by omega) (fun G2 J2 q2 f2 => ?_)
  refine And.intro (fun _ => ?_) (fun hb => absurd (by decide) hb)
  refine And.intro (fun _ => ?_) (fun hb => absurd (by decide) hb)
  refine And.intro (fun _ => ?_) (fun hb => absurd (by decide) hb)
  refine And.intro (fun hb => absurd hb (by decide)) (fun _ => ?_)
  have q3 := ((f2 3 (by decide)).trans q1)
  refine x_times (d := d) (r := 0) (a := 3) (b := 4) hM hA.1 rfl rfl rfl (by decide) (by decide) (by decide) q3 q2 (by omega) (fun G4 J4 q4 f4 => ?_)
  exact ⟨rfl, hp I G4 J4 (OutM.r1 hA q4 h16 (by rw [h17, Nat.sub_self]) FrX.refl)⟩
set_option maxHeartbeats 4000000 in
theorem M131_4 [NeZero p] {a1 b1 d' : Nat} {z0 z1 z2 : Int32} {A B : TR p D h} {post : Option Value → Me → Prop} (hM : MoM M m) (hA : MoA I m p h D) (hz0 : z0 = nI 4) (hz1 : z1 = nI a1) (hz2 : z2 = nI b1) (ha : a1 < 60) (hb : b1 < 60) (hA0 : ∀ j, j < 8 → I (m + 7) (24 * a1 + 8 * 0 + j) = vE p D h A j) (hB0 : ∀ j, j < 8 → I (m + 7) (24 * b1 + 8 * 0 + j) = vE p D h B j) (h16 : I m 16 = Int32.ofInt 0) (h17 : I m 17 = nI 0) (hd : d + 4 ≤ d') (hp : ∀ I1 G1 J1, OutM I I1 G1 m p h 1 (Int32.ofInt 0) (nk4 p D h A B) → post (some (.int (nk4 p D h A B).1)) (St M (rg I1 m G1) J1)) : Ok K d' 131 [.ref m, .int z0, .int z1, .int z2] (St M (rg I m G) J) post := by
  refine Ok.up (d := d + 4) (post := post) ?_ hd (fun _ _ h => h)
  subst hz0 hz1 hz2
  refine Ok.go (e := me_131) rfl rfl (Nat.le_of_ble_eq_true rfl) hM.c ?_
  refine Rf.go 250 [] ?_
  refine x_loadE (d := d) (r := 3) (a := a1) (k := 0) (v := vE p D h A) hM rfl rfl rfl (by decide) (by omega) (by omega) hA0 (by omega) (fun G1 J1 q1 f1 => ?_)
  refine x_loadE (d := d) (r := 4) (a := b1) (k := 0) (v := vE p D h B) hM rfl rfl rfl (by decide) (by omega) (by omega) hB0 (by omega) (fun G2 J2 q2 f2 => ?_)
  refine And.intro (fun hb => absurd hb (by decide)) (fun _ => ?_)
  refine m_isZero (d := d) (a := 4) hM rfl (by decide) hA.1.2.2.1 hA.1.2.2.2.1.2 q2 (by omega) (fun z3 => ?_) (fun z3 => ?_)
  · refine And.intro (fun hb => absurd hb (by decide)) (fun _ => ?_)
    rw [show nk4 p D h A B = rzN (Int32.ofInt (-2)) D h from if_pos z3] at hp
    exact ⟨rfl, hp I G2 J2 (OutM.no (by decide) hA h17 FrX.refl)⟩
  · refine And.intro (fun _ => ?_) (fun hb => absurd (by decide) hb)
    refine And.intro (fun _ => ?_) (fun hb => absurd (by decide) hb)
    refine And.intro (fun _ => ?_) (fun hb => absurd (by decide) hb)
    refine And.intro (fun _ => ?_) (fun hb => absurd (by decide) hb)
    refine m_invert (d := d) (r := 4) (a := 4) hM hA rfl rfl (by decide) (by decide) (by decide) q2 (by omega) (fun G4 J4 q4 f4 => ?_)
    have q5 := ((f4 3 (by decide) (by decide)).trans ((f2 3 (by decide)).trans q1))
    refine x_times (d := d) (r := 0) (a := 3) (b := 4) hM hA.1 rfl rfl rfl (by decide) (by decide) (by decide) q5 q4 (by omega) (fun G6 J6 q6 f6 => ?_)
    rw [show nk4 p D h A B = (Int32.ofInt 0, D, h, rz3 (tV p D h ((TI p D h).mul A (iv p D h B))) (fun _ => 0) (fun _ => 0)) from if_neg z3] at hp
    exact ⟨rfl, hp I G6 J6 (OutM.r1 hA q6 h16 (by rw [h17, Nat.sub_self]) FrX.refl)⟩
theorem ng1 {R : Type} [Lean.Grind.CommRing R] (a b : R) : a - b = -(b - a) := by grind
theorem ng2 {R : Type} [Lean.Grind.CommRing R] (a : R) : a = - -a := by grind
theorem ng3 {R : Type} [Lean.Grind.CommRing R] {X Z : R} (h : IsInv X Z) : IsInv (-X) (-Z) := ⟨fun q => by have := h.1 (by grind); grind, fun q => by have := h.2 (fun w => q (by grind)); grind⟩
theorem ng4 {R : Type} [Lean.Grind.CommRing R] (a z : R) : -a * -z = a * z := by grind
theorem ng5 {R : Type} [Lean.Grind.CommRing R] (a b x y z : R) : -(-a * x + -b * y) * -z = -(a * x + b * y) * z := by grind
theorem ng6 {R : Type} [Lean.Grind.CommRing R] (a : R) : -a = 0 ↔ a = 0 := ⟨fun q => by grind, fun q => by grind⟩
theorem iv_neg [NeZero p] {X : TR p D h} (hp : Pr p) (hodd : p % 2 = 1) (hD : tOk p D h) : iv p D h ((TI p D h).neg X) = (TI p D h).neg (iv p D h X) := by
  obtain ⟨W, hW⟩ := @Fl.isInv (TR p D h) (TI p D h) p (2 ^ h) (tw_Fl hp hodd h hD) X
  rw [iv_is hW]
  exact iv_is (@ng3 (TR p D h) (TI p D h) X W hW)
theorem ldE_neg [NeZero p] {A B : TR p D h} : ldE p D h ((TI p D h).neg A) ((TI p D h).neg B) = (TI p D h).neg (ldE p D h A B) := by
  have e := @ng6 (TR p D h) (TI p D h) B
  by_cases z : B = ((TI p D h).ofNat 0).ofNat
  · rw [ldE_t z, ldE_t (e.mpr z)]
  · rw [ldE_f z, ldE_f (fun q => z (e.mp q))]
theorem ln_neg [NeZero p] {A B X Y : TR p D h} (hp : Pr p) (hodd : p % 2 = 1) (hD : tOk p D h) : ((TI p D h).mul ((TI p D h).neg A) (iv p D h (ldE p D h ((TI p D h).neg A) ((TI p D h).neg B)))) = ((TI p D h).mul A (iv p D h (ldE p D h A B))) ∧ ((TI p D h).mul ((TI p D h).neg B) (iv p D h (ldE p D h ((TI p D h).neg A) ((TI p D h).neg B)))) = ((TI p D h).mul B (iv p D h (ldE p D h A B))) ∧ ((TI p D h).mul ((TI p D h).neg ((TI p D h).add ((TI p D h).mul ((TI p D h).neg A) X) ((TI p D h).mul ((TI p D h).neg B) Y))) (iv p D h (ldE p D h ((TI p D h).neg A) ((TI p D h).neg B)))) = ((TI p D h).mul ((TI p D h).neg ((TI p D h).add ((TI p D h).mul A X) ((TI p D h).mul B Y))) (iv p D h (ldE p D h A B))) := by
  rw [ldE_neg, iv_neg hp hodd hD]
  exact ⟨@ng4 (TR p D h) (TI p D h) A _, @ng4 (TR p D h) (TI p D h) B _, @ng5 (TR p D h) (TI p D h) A B X Y _⟩
set_option maxHeartbeats 4000000 in
theorem M132 [NeZero p] {a1 b1 d' : Nat} {z0 z1 : Int32} {S0 S1 S2 T0 T1 T2 : TR p D h} {post : Option Value → Me → Prop} (hM : MoM M m) (hA : MoA I m p h D) (hz0 : z0 = nI a1) (hz1 : z1 = nI b1) (ha : a1 < 60) (hb : b1 < 60) (hS0v : ∀ j, j < 8 → I (m + 7) (24 * a1 + 8 * 0 + j) = vE p D h S0 j) (hS1v : ∀ j, j < 8 → I (m + 7) (24 * a1 + 8 * 1 + j) = vE p D h S1 j) (hS2v : ∀ j, j < 8 → I (m + 7) (24 * a1 + 8 * 2 + j) = vE p D h S2 j) (hT0v : ∀ j, j < 8 → I (m + 7) (24 * b1 + 8 * 0 + j) = vE p D h T0 j) (hT1v : ∀ j, j < 8 → I (m + 7) (24 * b1 + 8 * 1 + j) = vE p D h T1 j) (hT2v : ∀ j, j < 8 → I (m + 7) (24 * b1 + 8 * 2 + j) = vE p D h T2 j) (hse : I (m + 5) a1 = I (m + 5) b1) (hS2 : S2 = T2) (h17 : I m 17 = nI 0) (hd : d + 6 ≤ d') (hp : ∀ I1 G1 J1, OutM I I1 G1 m p h 3 (Int32.ofInt 2) (nk7 p D h S0 S1 T0 T1) → post (some (.int (nk7 p D h S0 S1 T0 T1).1)) (St M (rg I1 m G1) J1)) : Ok K d' 132 [.ref m, .int z0, .int z1] (St M (rg I m G) J) post := by
  refine Ok.up (d := d + 6) (post := post) ?_ hd (fun _ _ h => h)
  subst hz0 hz1
  refine Ok.go (e := me_132) rfl rfl (Nat.le_of_ble_eq_true rfl) hM.c ?_
  refine Rf.go 250 [] ?_
  refine m_areOne (d := d) (s := a1) (t := b1) hM hA.1.2.2.1 hA.1.2.2.2.1.2 rfl rfl (by omega) (by omega) hse hS0v hS1v hS2v hT0v hT1v hT2v (by omega) (fun z1 => ?_) (fun z1 => ?_)
  · refine And.intro (fun hb => absurd hb (by decide)) (fun _ => ?_)
    rw [show nk7 p D h S0 S1 T0 T1 = rzN (Int32.ofInt (-3)) D h from if_pos ⟨z1.1, z1.2.1⟩] at hp
    exact ⟨rfl, hp I G J (OutM.no (by decide) hA h17 FrX.refl)⟩
  · refine And.intro (fun _ => ?_) (fun hb => absurd (by decide) hb)
    refine x_loadE (d := d) (r := 7) (a := a1) (k := 0) (v := vE p D h S0) hM rfl rfl rfl (by decide) (by omega) (by omega) hS0v (by omega) (fun G2 J2 q2 f2 => ?_)
    refine x_loadE (d := d) (r := 8) (a := a1) (k := 1) (v := vE p D h S1) hM rfl rfl rfl (by decide) (by omega) (by omega) hS1v (by omega) (fun G3 J3 q3 f3 => ?_)
    refine x_loadE (d := d) (r := 9) (a := b1) (k := 0) (v := vE p D h T0) hM rfl rfl rfl (by decide) (by omega) (by omega) hT0v (by omega) (fun G4 J4 q4 f4 => ?_)
    refine x_loadE (d := d) (r := 10) (a := b1) (k := 1) (v := vE p D h T1) hM rfl rfl rfl (by decide) (by omega) (by omega) hT1v (by omega) (fun G5 J5 q5 f5 => ?_)
    have q6 := ((f5 8 (by decide)).trans ((f4 8 (by decide)).trans q3))
    refine x_less (d := d) (r := 0) (a := 10) (b := 8) hM rfl rfl rfl (by decide) (by decide) (by decide) hA.1.1 hA.1.2.2.2.1.2 q5 q6 (by omega) (fun G7 J7 q7 f7 => ?_)
    have q8 := ((f7 7 (by decide)).trans ((f5 7 (by decide)).trans ((f4 7 (by decide)).trans ((f3 7 (by decide)).trans q2))))
    have q9 := ((f7 9 (by decide)).trans ((f5 9 (by decide)).trans q4))
    refine x_less (d := d) (r := 1) (a := 7) (b := 9) hM rfl rfl rfl (by decide) (by decide) (by decide) hA.1.1 hA.1.2.2.2.1.2 q8 q9 (by omega) (fun G10 J10 q10 f10 => ?_)
    have q11 := ((f10 0 (by decide)).trans q7)
    rw [show ((TI p D h).sub T1 S1) = ((TI p D h).neg ((TI p D h).sub S1 T1)) from @ng1 (TR p D h) (TI p D h) _ _] at q11
    rw [show ((TI p D h).sub S0 T0) = ((TI p D h).neg ((TI p D h).sub T0 S0)) from @ng1 (TR p D h) (TI p D h) _ _] at q10
    have q12 := ((f10 7 (by decide)).trans q8)
    have q13 := ((f10 8 (by decide)).trans ((f7 8 (by decide)).trans q6))
    refine M126 (d := d) hM hA rfl rfl q11 q10 q12 q13 (by omega) (fun G14 J14 q14a q14b q14c f14 => ?_)
    have hA15 := hA.put (x := Int32.ofInt 2) (q := 16) (by decide) (by decide)
    have hl := ln_neg (A := ((TI p D h).sub S1 T1)) (B := ((TI p D h).sub T0 S0)) (X := S0) (Y := S1) hA15.2.2.2.1 hA15.2.2.2.2 hA15.2.2.1
    rw [hl.1] at q14a
    rw [hl.2.1] at q14b
    rw [hl.2.2] at q14c
    rw [show nk7 p D h S0 S1 T0 T1 = lnF p D h ((TI p D h).sub S1 T1) ((TI p D h).sub T0 S0) S0 S1 from if_neg (fun w => z1 ⟨w.1, w.2, hS2⟩)] at hp
    exact ⟨rfl, hp (u2 I m 16 (Int32.ofInt 2)) G14 J14 (OutM.r3 hA15 q14a q14b q14c (by rw [u2_at, if_pos rfl]) (by rw [u2_at, if_neg (by decide), h17, Nat.sub_self]) (FrX.refl.put (Or.inl rfl)))⟩
end N3
