section M1
variable {K : Ka} {d m p h r a b i j k : Nat} {M : Me} {I : Nat → Nat → Int32} {J : Nat → Nat → Int64} {D : Nat → Nat → Nat} {G : Nat → Nat → Int32} {f g v : Nat → Int32}
theorem ix8o : (Int32.ofInt 8 * nI a).toNatClampNeg = (Int32.ofInt 8 * nI a + nI 0).toNatClampNeg := by rw [ix8e, show Int32.ofInt 8 = nI 8 from rfl, pk_mul]; rfl
theorem MoM.in0 (hM : MoM M m) (ha : a < 64) : inb (Int32.ofInt 8 * nI a) (mH M (m + 11)).2 = true := by
  rw [show Int32.ofInt 8 = nI 8 from rfl, pk_mul, (hM.a512 (a := m + 11) (by omega)).2]
  exact inb_n (by omega) (by omega)
theorem ix80 (ha : a < 64) : (Int32.ofInt 8 * nI a).toNatClampNeg = 8 * a + 0 := by rw [ix8o, ix8 ha (by decide)]
set_option maxHeartbeats 2000000 in
theorem m_set {d' : Nat} {z1 x : Int32} {post : Option Value → Me → Prop} (hM : MoM M m) (hz1 : z1 = nI r) (hr : r < 64) (hd : d + 1 ≤ d') (hp : ∀ J1, post none (St M (rg I m (fu G r (fun j => if j = 0 then x else Int32.ofInt 0))) J1)) : Ok K d' 97 [.ref m, .int z1, .int x] (St M (rg I m G) J) post := by
  refine Ok.up (d := d + 1) (post := post) ?_ hd (fun _ _ h => h)
  subst hz1
  refine Ok.go (e := me_97) rfl rfl (Nat.le_of_ble_eq_true rfl) hM.c ?_
  have key : ∀ i, i ≤ 8 → Rf K d mc_97 2 (lk [(3, .int (nI i)), (0, .ref m), (1, .int (nI r)), (2, .int x)]) [] (St M (rg I m (gN G r i (fun _ => Int32.ofInt 0))) J) (fun r M1 => rok me_97.2.2.2.1 r = true ∧ post r M1) := by
    refine for_up 8 ?_ (fun i hi ih => ?_)
    · refine Rf.go 100 [2] ?_
      refine And.intro (fun _ => ?_) (fun hb => (ge8n hb).elim)
      refine And.intro hM.c ⟨m + 11, hM.r14, ?_⟩
      refine And.intro ⟨hM.rcg, hM.in0 hr⟩ ?_
      refine ⟨rfl, ?_⟩
      have e : u2 (rg I m (gN G r 8 (fun _ => Int32.ofInt 0))) (m + 11) (Int32.ofInt 8 * nI r).toNatClampNeg x = rg I m (fu G r (fun j => if j = 0 then x else Int32.ofInt 0)) := by
        rw [ix80 hr, rg_put (by decide)]
        refine rg_cong (fun s j hj => ?_)
        unfold fu gN
        by_cases e : s = r
        · rw [if_pos e, if_pos e, if_pos rfl]
          by_cases e2 : j = 0
          · rw [if_pos e2, if_pos e2]
          · rw [if_neg e2, if_neg e2, if_pos hj]
        · rw [if_neg e, if_neg e, if_neg e]
      have := hp J
      rw [← e] at this
      exact this
    · refine Rf.go 100 [2] ?_
      refine And.intro (fun hb => (ge8 hi hb).elim) (fun _ => ?_)
      refine And.intro hM.c ⟨m + 11, hM.r14, ?_⟩
      refine And.intro ⟨hM.rcg, hM.ing hr hi⟩ ?_
      exact Rf.weak [(3, .int (nI (i + 1))), (0, .ref m), (1, .int (nI r)), (2, .int x)] ⟨inc1 i, rfl, rfl, rfl, trivial⟩ (Rf.rgS hr hi rfl ih)
  refine Rf.go 100 [2] ?_
  refine Rf.weak [(3, .int (nI 0)), (0, .ref m), (1, .int (nI r)), (2, .int x)] ⟨rfl, rfl, rfl, rfl, trivial⟩ ?_
  have := key 0 (by omega)
  rw [gN_0] at this
  exact this
theorem m_setE [NeZero p] {c d' : Nat} {z1 x : Int32} {post : Option Value → Me → Prop} (hM : MoM M m) (hz1 : z1 = nI r) (hx : x = nI c) (hr : r < 64) (hp2 : 2 ≤ p) (hc : c < p) (hd : d + 1 ≤ d') (hp : ∀ J1, post none (St M (rg I m (fu G r (vE p D h (@nm (TR p D h) (TI p D h) c ((TI p D h).ofNat 1).ofNat)))) J1)) : Ok K d' 97 [.ref m, .int z1, .int x] (St M (rg I m G) J) post := by
  refine m_set (d := d) hM hz1 hr hd (fun J1 => ?_)
  have := hp J1
  rw [rg_fu (g := fun j => if j = 0 then x else Int32.ofInt 0) (fun j hj => ?_)] at this
  · exact this
  · unfold vE
    rw [tV_nm, tV_one hp2]
    by_cases e : j = 0
    · rw [if_pos e, if_pos e, Nat.mul_one, Nat.mod_eq_of_lt hc, hx]
    · rw [if_neg e, if_neg e, Nat.mul_zero, Nat.zero_mod]
      rfl
theorem m_set0 [NeZero p] {d' : Nat} {z1 : Int32} {post : Option Value → Me → Prop} (hM : MoM M m) (hz1 : z1 = nI r) (hr : r < 64) (hp2 : 2 ≤ p) (hd : d + 1 ≤ d') (hp : ∀ J1, post none (St M (rg I m (fu G r (vE p D h ((TI p D h).ofNat 0).ofNat))) J1)) : Ok K d' 97 [.ref m, .int z1, .int (Int32.ofInt 0)] (St M (rg I m G) J) post :=
  m_setE (c := 0) (d := d) hM hz1 rfl hr hp2 (by omega) hd hp
theorem nm_1 [NeZero p] : @nm (TR p D h) (TI p D h) 1 ((TI p D h).ofNat 1).ofNat = ((TI p D h).ofNat 1).ofNat := by
  letI I9 := TI p D h
  show nm 1 (1 : TR p D h) = 1
  show nm 0 (1 : TR p D h) + 1 = 1
  show (0 : TR p D h) + 1 = 1
  grind
theorem m_set1 [NeZero p] {d' : Nat} {z1 : Int32} {post : Option Value → Me → Prop} (hM : MoM M m) (hz1 : z1 = nI r) (hr : r < 64) (hp2 : 2 ≤ p) (hd : d + 1 ≤ d') (hp : ∀ J1, post none (St M (rg I m (fu G r (vE p D h ((TI p D h).ofNat 1).ofNat))) J1)) : Ok K d' 97 [.ref m, .int z1, .int (Int32.ofInt 1)] (St M (rg I m G) J) post :=
  m_setE (p := p) (D := D) (h := h) (c := 1) (d := d) hM hz1 rfl hr hp2 (by omega) hd (by rw [nm_1]; exact hp)
theorem rdr (ha : a < 64) (hi : i < 8) : rg I m G (m + 11) (Int32.ofInt 8 * nI a + nI i).toNatClampNeg = G a i := by rw [ix8 ha hi, rg_at hi]
set_option maxHeartbeats 2000000 in
theorem m_isZeroR {d' : Nat} {z1 : Int32} {post : Option Value → Me → Prop} (hM : MoM M m) (hz1 : z1 = nI a) (ha : a < 64) (hd : d + 1 ≤ d') (hp : post (some (.int (bI (z8 (G a))))) (St M (rg I m G) J)) : Ok K d' 102 [.ref m, .int z1] (St M (rg I m G) J) post := by
  refine Ok.up (d := d + 1) (post := post) ?_ hd (fun _ _ h => h)
  subst hz1
  refine Ok.go (e := me_102) rfl rfl (Nat.le_of_ble_eq_true rfl) hM.c ?_
  have key : ∀ i, i ≤ 8 → ∀ b : Bool, (b = true ↔ ∀ j, j < i → G a j = 0) → Rf K d mc_102 4 (lk [(3, .int (nI i)), (2, .int (bI b)), (0, .ref m), (1, .int (nI a))]) [] (St M (rg I m G) J) (fun r M1 => rok me_102.2.2.2.1 r = true ∧ post r M1) := by
    refine for_up 8 (fun b hb => ?_) (fun i hi ih b hb => ?_)
    · have e : z8 (G a) = b := by
        rw [Bool.eq_iff_iff, z8_iff]
        exact hb.symm
      refine Rf.go 100 [4] ?_
      refine And.intro (fun _ => ?_) (fun hb => (ge8n hb).elim)
      rw [e] at hp
      exact ⟨by cases b <;> rfl, hp⟩
    · refine Rf.go 100 [4] ?_
      refine And.intro (fun hb => (ge8 hi hb).elim) (fun _ => ?_)
      cases b with
      | false =>
        refine And.intro (fun _ => ?_) (fun hc => (eq0b hc).elim)
        exact Rf.weak [(3, .int (nI (i + 1))), (2, .int (bI false)), (0, .ref m), (1, .int (nI a))] ⟨inc1 i, rfl, rfl, rfl, trivial⟩ (ih false ⟨fun q => (by cases q), fun q => hb.mpr (fun j hj => q j (by omega))⟩)
      | true =>
        refine And.intro (fun hc => (eq1b hc).elim) (fun _ => ?_)
        refine And.intro hM.c ⟨m + 11, hM.r14, ?_⟩
        refine Or.inr (And.intro ⟨hM.rcg, hM.ing ha hi⟩ ?_)
        refine And.intro (fun hc => ?_) (fun hc => ?_)
        · have hc : ¬ rg I m G (m + 11) (Int32.ofInt 8 * nI a + nI i).toNatClampNeg = 0 := of_decide_eq_true hc
          rw [rdr ha hi] at hc
          exact Rf.weak [(3, .int (nI (i + 1))), (2, .int (bI false)), (0, .ref m), (1, .int (nI a))] ⟨inc1 i, rfl, rfl, rfl, trivial⟩ (ih false ⟨fun q => (by cases q), fun q => absurd (q i (by omega)) hc⟩)
        · have hc : rg I m G (m + 11) (Int32.ofInt 8 * nI a + nI i).toNatClampNeg = 0 := Classical.not_not.mp (fun q => hc (decide_eq_true q))
          rw [rdr ha hi] at hc
          refine Rf.weak [(3, .int (nI (i + 1))), (2, .int (bI true)), (0, .ref m), (1, .int (nI a))] ⟨inc1 i, rfl, rfl, rfl, trivial⟩ (ih true ⟨fun _ j hj => ?_, fun _ => rfl⟩)
          by_cases e : j = i
          · rw [e]; exact hc
          · exact hb.mp rfl j (by omega)
  refine Rf.go 100 [4] ?_
  exact Rf.weak [(3, .int (nI 0)), (2, .int (bI true)), (0, .ref m), (1, .int (nI a))] ⟨rfl, rfl, rfl, rfl, trivial⟩ (key 0 (by omega) true ⟨fun _ j hj => absurd hj (Nat.not_lt_zero j), fun _ => rfl⟩)
theorem vE_z8 [NeZero p] {X : TR p D h} (hh : h ≤ 3) (hp : p ≤ 32749) : z8 (vE p D h X) = true ↔ X = ((TI p D h).ofNat 0).ofNat := z8_el (I := fun _ => vE p D h X) (x := 0) hh hp (fun _ _ => rfl)
theorem vE_inj [NeZero p] {X Y : TR p D h} (hh : h ≤ 3) (hp : p ≤ 32749) : s8 (vE p D h X) (vE p D h Y) = true ↔ X = Y := s8_el (I := fun a => if a = 0 then vE p D h X else vE p D h Y) (x := 0) (y := 1) hh hp (fun _ _ => rfl) (fun _ _ => rfl)
theorem m_isZero [NeZero p] {d' : Nat} {z1 : Int32} {X : TR p D h} {post : Option Value → Me → Prop} (hM : MoM M m) (hz1 : z1 = nI a) (ha : a < 64) (hh : h ≤ 3) (hpb : p ≤ 32749) (hX : G a = vE p D h X) (hd : d + 1 ≤ d') (c1 : X = ((TI p D h).ofNat 0).ofNat → post (some (.int (Int32.ofInt 1))) (St M (rg I m G) J)) (c0 : ¬ X = ((TI p D h).ofNat 0).ofNat → post (some (.int (Int32.ofInt 0))) (St M (rg I m G) J)) : Ok K d' 102 [.ref m, .int z1] (St M (rg I m G) J) post := by
  refine m_isZeroR (d := d) hM hz1 ha hd ?_
  rw [hX]
  have hz := vE_z8 (p := p) (D := D) (X := X) hh hpb
  cases hb : z8 (vE p D h X) with
  | true => exact c1 (hz.mp hb)
  | false => exact c0 (fun q => by rw [hz.mpr q] at hb; cases hb)
set_option maxHeartbeats 2000000 in
theorem m_isSameR {d' : Nat} {z1 z2 : Int32} {post : Option Value → Me → Prop} (hM : MoM M m) (hz1 : z1 = nI a) (hz2 : z2 = nI b) (ha : a < 64) (hb6 : b < 64) (hd : d + 1 ≤ d') (hp : post (some (.int (bI (s8 (G a) (G b))))) (St M (rg I m G) J)) : Ok K d' 103 [.ref m, .int z1, .int z2] (St M (rg I m G) J) post := by
  refine Ok.up (d := d + 1) (post := post) ?_ hd (fun _ _ h => h)
  subst hz1 hz2
  refine Ok.go (e := me_103) rfl rfl (Nat.le_of_ble_eq_true rfl) hM.c ?_
  have key : ∀ i, i ≤ 8 → ∀ x : Bool, (x = true ↔ ∀ j, j < i → G a j = G b j) → Rf K d mc_103 4 (lk [(4, .int (nI i)), (3, .int (bI x)), (0, .ref m), (1, .int (nI a)), (2, .int (nI b))]) [] (St M (rg I m G) J) (fun r M1 => rok me_103.2.2.2.1 r = true ∧ post r M1) := by
    refine for_up 8 (fun x hb => ?_) (fun i hi ih x hb => ?_)
    · have e : s8 (G a) (G b) = x := by
        rw [Bool.eq_iff_iff, s8_iff]
        exact hb.symm
      refine Rf.go 100 [4] ?_
      refine And.intro (fun _ => ?_) (fun hb => (ge8n hb).elim)
      rw [e] at hp
      exact ⟨by cases x <;> rfl, hp⟩
    · refine Rf.go 100 [4] ?_
      refine And.intro (fun hb => (ge8 hi hb).elim) (fun _ => ?_)
      cases x with
      | false =>
        refine And.intro (fun _ => ?_) (fun hc => (eq0b hc).elim)
        exact Rf.weak [(4, .int (nI (i + 1))), (3, .int (bI false)), (0, .ref m), (1, .int (nI a)), (2, .int (nI b))] ⟨inc1 i, rfl, rfl, rfl, rfl, trivial⟩ (ih false ⟨fun q => (by cases q), fun q => hb.mpr (fun j hj => q j (by omega))⟩)
      | true =>
        refine And.intro (fun hc => (eq1b hc).elim) (fun _ => ?_)
        refine And.intro hM.c ⟨m + 11, hM.r14, ?_⟩
        refine Or.inr (And.intro ⟨hM.rcg, hM.ing ha hi⟩ ?_)
        refine And.intro hM.c ⟨m + 11, hM.r14, ?_⟩
        refine Or.inr (And.intro ⟨hM.rcg, hM.ing hb6 hi⟩ ?_)
        refine And.intro (fun hc => ?_) (fun hc => ?_)
        · have hc : ¬ rg I m G (m + 11) (Int32.ofInt 8 * nI a + nI i).toNatClampNeg = rg I m G (m + 11) (Int32.ofInt 8 * nI b + nI i).toNatClampNeg := of_decide_eq_true hc
          rw [rdr ha hi, rdr hb6 hi] at hc
          exact Rf.weak [(4, .int (nI (i + 1))), (3, .int (bI false)), (0, .ref m), (1, .int (nI a)), (2, .int (nI b))] ⟨inc1 i, rfl, rfl, rfl, rfl, trivial⟩ (ih false ⟨fun q => (by cases q), fun q => absurd (q i (by omega)) hc⟩)
        · have hc : rg I m G (m + 11) (Int32.ofInt 8 * nI a + nI i).toNatClampNeg = rg I m G (m + 11) (Int32.ofInt 8 * nI b + nI i).toNatClampNeg := Classical.not_not.mp (fun q => hc (decide_eq_true q))
          rw [rdr ha hi, rdr hb6 hi] at hc
          refine Rf.weak [(4, .int (nI (i + 1))), (3, .int (bI true)), (0, .ref m), (1, .int (nI a)), (2, .int (nI b))] ⟨inc1 i, rfl, rfl, rfl, rfl, trivial⟩ (ih true ⟨fun _ j hj => ?_, fun _ => rfl⟩)
          by_cases e : j = i
          · rw [e]; exact hc
          · exact hb.mp rfl j (by omega)
  refine Rf.go 100 [4] ?_
  exact Rf.weak [(4, .int (nI 0)), (3, .int (bI true)), (0, .ref m), (1, .int (nI a)), (2, .int (nI b))] ⟨rfl, rfl, rfl, rfl, rfl, trivial⟩ (key 0 (by omega) true ⟨fun _ j hj => absurd hj (Nat.not_lt_zero j), fun _ => rfl⟩)
theorem m_isSame [NeZero p] {d' : Nat} {z1 z2 : Int32} {X Y : TR p D h} {post : Option Value → Me → Prop} (hM : MoM M m) (hz1 : z1 = nI a) (hz2 : z2 = nI b) (ha : a < 64) (hb : b < 64) (hh : h ≤ 3) (hpb : p ≤ 32749) (hX : G a = vE p D h X) (hY : G b = vE p D h Y) (hd : d + 1 ≤ d') (c1 : X = Y → post (some (.int (Int32.ofInt 1))) (St M (rg I m G) J)) (c0 : ¬ X = Y → post (some (.int (Int32.ofInt 0))) (St M (rg I m G) J)) : Ok K d' 103 [.ref m, .int z1, .int z2] (St M (rg I m G) J) post := by
  refine m_isSameR (d := d) hM hz1 hz2 ha hb hd ?_
  rw [hX, hY]
  have hz := vE_inj (p := p) (D := D) (X := X) (Y := Y) hh hpb
  cases hb : s8 (vE p D h X) (vE p D h Y) with
  | true => exact c1 (hz.mp hb)
  | false => exact c0 (fun q => by rw [hz.mpr q] at hb; cases hb)
theorem bit1 : ∀ k, k < 3 → ∀ j, j < 8 → j < 2 ^ (k + 1) → ((nI j >>> ((nI (k + 1) - Int32.ofInt 1) &&& 31)) &&& Int32.ofInt 1 = Int32.ofInt 1 ↔ 2 ^ k ≤ j) := by decide
set_option maxHeartbeats 2000000 in
theorem m_other [NeZero p] {r a d' : Nat} {z1 z2 z3 : Int32} {X : TR p D (k + 1)} {post : Option Value → Me → Prop} (hM : MoM M m) (hz1 : z1 = nI r) (hz2 : z2 = nI a) (hz3 : z3 = nI (k + 1)) (hr : r < 64) (ha : a < 64) (hk : k < 3) (hp0 : I m 0 = nI p) (hpb : p ≤ 32749) (hX : G a = vE p D (k + 1) X) (hd : d + 1 ≤ d') (hp : ∀ J1, post none (St M (rg I m (fu G r (vE p D (k + 1) ((X.1, (TI p D k).neg X.2) : TR p D k × TR p D k)))) J1)) : Ok K d' 105 [.ref m, .int z1, .int z2, .int z3] (St M (rg I m G) J) post := by
  refine Ok.up (d := d + 1) (post := post) ?_ hd (fun _ _ h => h)
  subst hz1 hz2 hz3
  refine Ok.go (e := me_105) rfl rfl (Nat.le_of_ble_eq_true rfl) hM.c ?_
  have key : ∀ i, i ≤ 8 → Rf K d mc_105 2 (lk [(4, .int (nI i)), (0, .ref m), (1, .int (nI r)), (2, .int (nI a)), (3, .int (nI (k + 1)))]) [] (St M (rg I m (gN G r i (vE p D (k + 1) ((X.1, (TI p D k).neg X.2) : TR p D k × TR p D k)))) J) (fun r M1 => rok me_105.2.2.2.1 r = true ∧ post r M1) := by
    refine for_up 8 ?_ (fun i hi ih => ?_)
    · refine Rf.go 100 [2] ?_
      refine And.intro (fun _ => ?_) (fun hb => (ge8n hb).elim)
      exact ⟨rfl, by have := hp J; rw [← rg_8] at this; exact this⟩
    · refine Rf.go 100 [2] ?_
      refine And.intro (fun hb => (ge8 hi hb).elim) (fun _ => ?_)
      refine And.intro hM.c ⟨m + 11, hM.r14, ?_⟩
      refine Or.inr (And.intro ⟨hM.rcg, hM.ing ha hi⟩ ?_)
      refine And.intro hM.c ⟨m + 11, hM.r14, ?_⟩
      have h1 := tV_lt (p := p) (D := D) (x := X) (j := i)
      have es : rg I m (gN G r i (vE p D (k + 1) ((X.1, (TI p D k).neg X.2) : TR p D k × TR p D k))) (m + 11) (Int32.ofInt 8 * nI a + nI i).toNatClampNeg = nI (tV p D (k + 1) X i) := by
        rw [rd ha hi, hX]
        rfl
      have ep : rg I m (gN G r i (vE p D (k + 1) ((X.1, (TI p D k).neg X.2) : TR p D k × TR p D k))) m 0 = nI p := by rw [rg_m]; exact hp0
      have eX : tV p D (k + 1) X i = if i < 2 ^ k then tV p D k X.1 i else tV p D k X.2 (i - 2 ^ k) := rfl
      have eS : (vE p D (k + 1) ((X.1, (TI p D k).neg X.2) : TR p D k × TR p D k)) i = nI (if i < 2 ^ k then tV p D k X.1 i else tV p D k ((TI p D k).neg X.2) (i - 2 ^ k)) := rfl
      have hpw : 2 ^ (k + 1) = 2 * 2 ^ k := by rw [Nat.pow_succ]; omega
      refine And.intro (fun hc => ?_) (fun hc => ?_)
      · have hc : ¬ (nI i >>> ((nI (k + 1) - Int32.ofInt 1) &&& 31)) &&& Int32.ofInt 1 = Int32.ofInt 1 := of_decide_eq_true hc
        refine And.intro ⟨hM.rcg, hM.ing hr hi⟩ ?_
        refine Rf.weak [(4, .int (nI (i + 1))), (0, .ref m), (1, .int (nI r)), (2, .int (nI a)), (3, .int (nI (k + 1)))] ⟨inc1 i, rfl, rfl, rfl, rfl, trivial⟩ (Rf.rgS hr hi ?_ ih)
        refine es.trans ?_
        rw [eS, eX]
        by_cases hi2 : i < 2 ^ k
        · rw [if_pos hi2, if_pos hi2]
        · rw [if_neg hi2, if_neg hi2]
          by_cases hi3 : i < 2 ^ (k + 1)
          · exact absurd ((bit1 k hk i hi hi3).mpr (by omega)) hc
          · rw [tV_hi (by omega), tV_hi (by omega)]
      · have hc : (nI i >>> ((nI (k + 1) - Int32.ofInt 1) &&& 31)) &&& Int32.ofInt 1 = Int32.ofInt 1 := Classical.not_not.mp (fun q => hc (decide_eq_true q))
        refine And.intro (fun hq => ?_) (fun hq => ?_)
        · have hq : rg I m (gN G r i (vE p D (k + 1) ((X.1, (TI p D k).neg X.2) : TR p D k × TR p D k))) (m + 11) (Int32.ofInt 8 * nI a + nI i).toNatClampNeg ≤ 0 := of_decide_eq_true hq
          rw [es] at hq
          have hq : tV p D (k + 1) X i = 0 := by
            apply Classical.byContradiction
            intro q
            exact nI_nle (by omega) (by omega) hq
          refine And.intro ⟨hM.rcg, hM.ing hr hi⟩ ?_
          refine Rf.weak [(4, .int (nI (i + 1))), (0, .ref m), (1, .int (nI r)), (2, .int (nI a)), (3, .int (nI (k + 1)))] ⟨inc1 i, rfl, rfl, rfl, rfl, trivial⟩ (Rf.rgS hr hi ?_ ih)
          refine es.trans ?_
          rw [eS, hq]
          rw [eX] at hq
          by_cases hi2 : i < 2 ^ k
          · rw [if_pos hi2] at hq ⊢
            rw [hq]
          · rw [if_neg hi2] at hq ⊢
            rw [tV_neg, hq, Nat.sub_zero, Nat.mod_self]
        · have hq : ¬ rg I m (gN G r i (vE p D (k + 1) ((X.1, (TI p D k).neg X.2) : TR p D k × TR p D k))) (m + 11) (Int32.ofInt 8 * nI a + nI i).toNatClampNeg ≤ 0 := fun q => hq (decide_eq_true q)
          rw [es] at hq
          have hq : ¬ tV p D (k + 1) X i = 0 := fun q => hq (by rw [q]; decide)
          have hi3 : i < 2 ^ (k + 1) := by
            apply Classical.byContradiction
            intro q
            exact hq (tV_hi (by omega))
          have hi2 : ¬ i < 2 ^ k := by
            have := (bit1 k hk i hi hi3).mp hc
            omega
          refine And.intro hM.c ?_
          refine And.intro ⟨hM.rcg, hM.ing hr hi⟩ ?_
          refine Rf.weak [(4, .int (nI (i + 1))), (0, .ref m), (1, .int (nI r)), (2, .int (nI a)), (3, .int (nI (k + 1)))] ⟨inc1 i, rfl, rfl, rfl, rfl, trivial⟩ (Rf.rgS hr hi ?_ ih)
          refine (show _ = nI p - nI (tV p D (k + 1) X i) by rw [← es, ← ep]; rfl).trans ?_
          rw [eS, if_neg hi2, tV_neg]
          rw [eX, if_neg hi2] at hq h1 ⊢
          rw [pk_sub (by omega), Nat.mod_eq_of_lt (by omega)]
  refine Rf.go 100 [2] ?_
  refine Rf.weak [(4, .int (nI 0)), (0, .ref m), (1, .int (nI r)), (2, .int (nI a)), (3, .int (nI (k + 1)))] ⟨rfl, rfl, rfl, rfl, rfl, trivial⟩ ?_
  have := key 0 (by omega)
  rw [gN_0] at this
  exact this
set_option maxHeartbeats 2000000 in
theorem m_halves [NeZero p] {r s d' : Nat} {z1 z2 z3 z4 : Int32} {X : TR p D (k + 1)} {post : Option Value → Me → Prop} (hM : MoM M m) (hz1 : z1 = nI r) (hz2 : z2 = nI s) (hz3 : z3 = nI a) (hz4 : z4 = nI (k + 1)) (hr : r < 64) (hs : s < 64) (ha : a < 64) (hrs : r ≠ s) (har : a ≠ r) (has : a ≠ s) (hk : k < 3) (hX : G a = vE p D (k + 1) X) (hd : d + 1 ≤ d') (hp : ∀ J1, post none (St M (rg I m (fu (fu G r (vE p D k X.1)) s (vE p D k X.2))) J1)) : Ok K d' 112 [.ref m, .int z1, .int z2, .int z3, .int z4] (St M (rg I m G) J) post := by
  refine Ok.up (d := d + 1) (post := post) ?_ hd (fun _ _ h => h)
  subst hz1 hz2 hz3 hz4
  have e0 : Int32.ofInt 1 <<< ((nI (k + 1) - Int32.ofInt 1) &&& 31) = nI (2 ^ k) := by rw [show nI (k + 1) - Int32.ofInt 1 = nI k from nI_pred k]; exact shl1 k (by omega)
  have hk4 : 2 ^ k ≤ 4 := by
    rcases (show k = 0 ∨ k = 1 ∨ k = 2 by omega) with rfl | rfl | rfl <;> decide
  have eX : ∀ j, tV p D (k + 1) X j = if j < 2 ^ k then tV p D k X.1 j else tV p D k X.2 (j - 2 ^ k) := fun _ => rfl
  refine Ok.go (e := me_112) rfl rfl (Nat.le_of_ble_eq_true rfl) hM.c ?_
  have key : ∀ i, i ≤ 8 → Rf K d mc_112 8 (lk [(6, .int (nI i)), (5, .int (nI (2 ^ k))), (0, .ref m), (1, .int (nI r)), (2, .int (nI s)), (3, .int (nI a))]) [] (St M (rg I m (gN (gN G r i (vE p D k X.1)) s i (vE p D k X.2))) J) (fun r M1 => rok me_112.2.2.2.1 r = true ∧ post r M1) := by
    refine for_up 8 ?_ (fun i hi ih => ?_)
    · refine Rf.go 100 [8] ?_
      refine And.intro (fun _ => ?_) (fun hb => (ge8n hb).elim)
      refine ⟨rfl, ?_⟩
      have := hp J
      have e : rg I m (gN (gN G r 8 (vE p D k X.1)) s 8 (vE p D k X.2)) = rg I m (fu (fu G r (vE p D k X.1)) s (vE p D k X.2)) := by
        rw [rg_8]
        refine rg_cong (fun q j hj => ?_)
        unfold fu gN
        by_cases e1 : q = s
        · rw [if_pos e1, if_pos e1]
        · rw [if_neg e1, if_neg e1]
          by_cases e2 : q = r
          · rw [if_pos e2, if_pos e2]; exact if_pos hj
          · rw [if_neg e2, if_neg e2]
      rw [← e] at this
      exact this
    · have ih2 : Rf K d mc_112 8 (lk [(6, .int (nI (i + 1))), (5, .int (nI (2 ^ k))), (0, .ref m), (1, .int (nI r)), (2, .int (nI s)), (3, .int (nI a))]) [] (St M (rg I m (gN (gN G r (i + 1) (vE p D k X.1)) s (i + 1) (vE p D k X.2))) J) (fun r M1 => rok me_112.2.2.2.1 r = true ∧ post r M1) := ih
      have hlo : ∀ (H : Nat → Nat → Int32), rg I m H = rg I m H := fun _ => rfl
      have sw : rg I m (fu (gN (gN G r i (vE p D k X.1)) s i (vE p D k X.2)) r (fun j => if j = i then vE p D k X.1 i else gN (gN G r i (vE p D k X.1)) s i (vE p D k X.2) r j)) = rg I m (gN (gN G r (i + 1) (vE p D k X.1)) s i (vE p D k X.2)) := by
        refine rg_cong (fun q j hj => ?_)
        unfold fu gN
        by_cases e2 : q = r
        · rw [if_pos e2, if_neg (show ¬ q = s by omega), if_pos e2, if_neg hrs, if_pos rfl]
          by_cases e3 : j = i
          · rw [if_pos e3, if_pos (by omega), e3]
          · rw [if_neg e3]
            by_cases e4 : j < i
            · rw [if_pos e4, if_pos (by omega)]
            · rw [if_neg e4, if_neg (by omega)]
        · rw [if_neg e2]
          by_cases e1 : q = s
          · rw [if_pos e1, if_pos e1, if_neg (show ¬ s = r by omega), if_neg (show ¬ s = r by omega)]
          · rw [if_neg e1, if_neg e1, if_neg e2, if_neg e2]
      have w1 : ∀ x, x = vE p D k X.1 i → u2 (rg I m (gN (gN G r i (vE p D k X.1)) s i (vE p D k X.2))) (m + 11) (Int32.ofInt 8 * nI r + nI i).toNatClampNeg x = rg I m (gN (gN G r (i + 1) (vE p D k X.1)) s i (vE p D k X.2)) := fun x hx => by
        rw [ix8 hr hi, rg_put hi, hx]
        exact sw
      have hGa : ∀ j, gN (gN G r (i + 1) (vE p D k X.1)) s i (vE p D k X.2) a j = nI (tV p D (k + 1) X j) := fun j => by
        rw [gN_ne has, gN_ne har, hX]
        rfl
      have hGb : ∀ j, gN (gN G r i (vE p D k X.1)) s i (vE p D k X.2) a j = nI (tV p D (k + 1) X j) := fun j => by
        rw [gN_ne has, gN_ne har, hX]
        rfl
      have eix : Int32.ofInt 8 * nI a + nI (2 ^ k) + nI i = nI (8 * a + (2 ^ k + i)) := by rw [ix8e, nI_add, Nat.add_assoc]
      have second : Rf K d mc_112 32 (lk [(6, .int (nI i)), (5, .int (nI (2 ^ k))), (0, .ref m), (1, .int (nI r)), (2, .int (nI s)), (3, .int (nI a))]) [] (St M (rg I m (gN (gN G r (i + 1) (vE p D k X.1)) s i (vE p D k X.2))) J) (fun r M1 => rok me_112.2.2.2.1 r = true ∧ post r M1) := by
        refine Rf.go 100 [8] ?_
        refine And.intro hM.c ⟨m + 11, hM.r14, ?_⟩
        refine And.intro (fun hc => ?_) (fun hc => ?_)
        · have hc := (geN (by omega) (by omega)).mp hc
          refine And.intro ⟨hM.rcg, hM.ing hs hi⟩ ?_
          refine Rf.weak [(6, .int (nI (i + 1))), (5, .int (nI (2 ^ k))), (0, .ref m), (1, .int (nI r)), (2, .int (nI s)), (3, .int (nI a))] ⟨inc1 i, rfl, rfl, rfl, rfl, rfl, trivial⟩ (Rf.rgS hs hi ?_ ih2)
          show Int32.ofInt 0 = nI (tV p D k X.2 i)
          rw [tV_hi hc]
          rfl
        · have hc : i < 2 ^ k := by
            apply Classical.byContradiction
            intro q
            exact hc ((geN (by omega) (by omega)).mpr (by omega))
          refine And.intro hM.c ⟨m + 11, hM.r14, ?_⟩
          refine Or.inr (And.intro ⟨hM.rcg, ?_⟩ ?_)
          · show inb (Int32.ofInt 8 * nI a + nI (2 ^ k) + nI i) (mH M (m + 11)).2 = true
            rw [eix, (hM.a512 (a := m + 11) (by omega)).2]
            exact inb_n (by omega) (by omega)
          refine And.intro ⟨hM.rcg, hM.ing hs hi⟩ ?_
          refine Rf.weak [(6, .int (nI (i + 1))), (5, .int (nI (2 ^ k))), (0, .ref m), (1, .int (nI r)), (2, .int (nI s)), (3, .int (nI a))] ⟨inc1 i, rfl, rfl, rfl, rfl, rfl, trivial⟩ (Rf.rgS hs hi ?_ ih2)
          show rg I m (gN (gN G r (i + 1) (vE p D k X.1)) s i (vE p D k X.2)) (m + 11) (Int32.ofInt 8 * nI a + nI (2 ^ k) + nI i).toNatClampNeg = nI (tV p D k X.2 i)
          rw [eix, nI_clamp (by omega), rg_at (by omega), hGa, eX, if_neg (by omega), Nat.add_sub_cancel_left]
      refine Rf.go 100 [8, 32] ?_
      refine And.intro (fun hb => (ge8 hi hb).elim) (fun _ => ?_)
      refine And.intro hM.c ⟨m + 11, hM.r14, ?_⟩
      refine And.intro (fun hc => ?_) (fun hc => ?_)
      · have hc := (geN (by omega) (by omega)).mp hc
        refine And.intro ⟨hM.rcg, hM.ing hr hi⟩ ?_
        have e := w1 (Int32.ofInt 0) (by show Int32.ofInt 0 = nI (tV p D k X.1 i); rw [tV_hi hc]; rfl)
        rw [← e] at second
        exact Rf.weak [(6, .int (nI i)), (5, .int (nI (2 ^ k))), (0, .ref m), (1, .int (nI r)), (2, .int (nI s)), (3, .int (nI a))] ⟨rfl, rfl, rfl, rfl, rfl, rfl, trivial⟩ second
      · have hc : i < 2 ^ k := by
          apply Classical.byContradiction
          intro q
          exact hc ((geN (by omega) (by omega)).mpr (by omega))
        refine And.intro hM.c ⟨m + 11, hM.r14, ?_⟩
        refine Or.inr (And.intro ⟨hM.rcg, hM.ing ha hi⟩ ?_)
        refine And.intro ⟨hM.rcg, hM.ing hr hi⟩ ?_
        have e := w1 (rg I m (gN (gN G r i (vE p D k X.1)) s i (vE p D k X.2)) (m + 11) (Int32.ofInt 8 * nI a + nI i).toNatClampNeg) (by
          rw [ix8 ha hi, rg_at hi, hGb, eX, if_pos hc]
          rfl)
        rw [← e] at second
        exact Rf.weak [(6, .int (nI i)), (5, .int (nI (2 ^ k))), (0, .ref m), (1, .int (nI r)), (2, .int (nI s)), (3, .int (nI a))] ⟨rfl, rfl, rfl, rfl, rfl, rfl, trivial⟩ second
  refine Rf.go 100 [8] ?_
  refine Rf.weak [(6, .int (nI 0)), (5, .int (nI (2 ^ k))), (0, .ref m), (1, .int (nI r)), (2, .int (nI s)), (3, .int (nI a))] ⟨rfl, congrArg (fun z => some (Value.int z)) e0, rfl, rfl, rfl, rfl, trivial⟩ ?_
  have := key 0 (by omega)
  rw [gN_0, gN_0] at this
  exact this
theorem m_unit [NeZero p] {d' : Nat} {z1 z2 : Int32} {post : Option Value → Me → Prop} (hM : MoM M m) (hz1 : z1 = nI r) (hz2 : z2 = nI (k + 1)) (hr : r < 64) (hk : k < h) (hh : h ≤ 3) (hp2 : 2 ≤ p) (hd : d + 2 ≤ d') (hp : ∀ J1, post none (St M (rg I m (fu G r (vE p D h (oV p D h (un (2 ^ k)))))) J1)) : Ok K d' 111 [.ref m, .int z1, .int z2] (St M (rg I m G) J) post := by
  refine Ok.up (d := d + 2) (post := post) ?_ hd (fun _ _ h => h)
  subst hz1 hz2
  have e0 : Int32.ofInt 1 <<< ((nI (k + 1) - Int32.ofInt 1) &&& 31) = nI (2 ^ k) := by rw [show nI (k + 1) - Int32.ofInt 1 = nI k from nI_pred k]; exact shl1 k (by omega)
  have hk8 : 2 ^ k < 2 ^ h := Nat.pow_lt_pow_right (by decide) hk
  have hw := w8 hh
  have eix : Int32.ofInt 8 * nI r + Int32.ofInt 1 <<< ((nI (k + 1) - Int32.ofInt 1) &&& 31) = nI (8 * r + 2 ^ k) := by rw [e0, ix8e]
  refine Ok.go (e := me_111) rfl rfl (Nat.le_of_ble_eq_true rfl) hM.c ?_
  refine Rf.go 100 [] ?_
  refine m_set (d := d) hM rfl hr (by omega) (fun J1 => ?_)
  refine And.intro hM.c ⟨m + 11, hM.r14, ?_⟩
  refine And.intro ⟨hM.rcg, ?_⟩ ?_
  · show inb (Int32.ofInt 8 * nI r + Int32.ofInt 1 <<< ((nI (k + 1) - Int32.ofInt 1) &&& 31)) (mH M (m + 11)).2 = true
    rw [eix, (hM.a512 (a := m + 11) (by omega)).2]
    exact inb_n (by omega) (by omega)
  refine ⟨rfl, ?_⟩
  have := hp J1
  have e : u2 (rg I m (fu G r (fun j => if j = 0 then Int32.ofInt 0 else Int32.ofInt 0))) (m + 11) (Int32.ofInt 8 * nI r + Int32.ofInt 1 <<< ((nI (k + 1) - Int32.ofInt 1) &&& 31)).toNatClampNeg (Int32.ofInt 1) = rg I m (fu G r (vE p D h (oV p D h (un (2 ^ k))))) := by
    rw [eix, nI_clamp (by omega), rg_put (by omega)]
    refine rg_cong (fun q j hj => ?_)
    unfold fu vE
    by_cases e1 : q = r
    · rw [if_pos e1, if_pos e1, if_pos rfl]
      by_cases hjh : j < 2 ^ h
      · rw [tV_oV hjh]
        unfold un
        by_cases e2 : j = 2 ^ k
        · rw [if_pos e2, if_pos e2, Nat.mod_eq_of_lt (by omega)]; rfl
        · rw [if_neg e2, if_neg e2, Nat.zero_mod]
          split <;> rfl
      · rw [tV_hi (by omega), if_neg (by omega)]
        split <;> rfl
    · rw [if_neg e1, if_neg e1, if_neg e1]
  rw [← e] at this
  exact this
end M1
