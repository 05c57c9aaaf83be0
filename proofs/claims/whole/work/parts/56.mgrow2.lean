/-! The model's growth -/
/-- the table and the waiting room replaced -/
def s9 (I : Nat → Nat → Int32) (m : Nat) (f g : Nat → Int32) : Nat → Nat → Int32 := fun b => if b = m + 9 then f else if b = m + 10 then g else I b
section Mw
variable {K : Ka} {d m p h r a b k : Nat} {M : Me} {I : Nat → Nat → Int32} {J : Nat → Nat → Int64} {D E : Nat → Nat → Nat} {G : Nat → Nat → Int32} {f g : Nat → Int32}
theorem s9_9 : s9 I m f g (m + 9) = f := if_pos rfl
theorem s9_10 : s9 I m f g (m + 10) = g := (if_neg (by omega)).trans (if_pos rfl)
theorem s9_ne (h1 : b ≠ m + 9) (h2 : b ≠ m + 10) : s9 I m f g b = I b := (if_neg h1).trans (if_neg h2)
theorem s9_u9 {q : Nat} {x : Int32} : u2 (s9 I m f g) (m + 9) q x = s9 I m (va_up f q x) g := by
  funext c
  unfold u2
  by_cases e : c = m + 9
  · rw [if_pos e, s9_9, e, s9_9]
  · rw [if_neg e]
    unfold s9
    rw [if_neg e, if_neg e]
theorem s9_u10 {q : Nat} {x : Int32} : u2 (s9 I m f g) (m + 10) q x = s9 I m f (va_up g q x) := by
  funext c
  unfold u2
  by_cases e : c = m + 10
  · rw [if_pos e, s9_10, e, s9_10]
  · rw [if_neg e]
    unfold s9
    by_cases e2 : c = m + 9
    · rw [if_pos e2, if_pos e2]
    · rw [if_neg e2, if_neg e2, if_neg e, if_neg e]
theorem s9_self : s9 I m (I (m + 9)) (I (m + 10)) = I := by
  funext c
  unfold s9
  by_cases e : c = m + 9
  · rw [if_pos e, e]
  · rw [if_neg e]
    by_cases e2 : c = m + 10
    · rw [if_pos e2, e2]
    · rw [if_neg e2]
theorem s9_MoI [NeZero p] (hI : MoI I m p h D) (hf : ∀ i j k, i < 2 ^ h → j < 2 ^ h → k < 8 → f (64 * i + 8 * j + k) = nI (tbF p D h i j k)) : MoI (s9 I m f g) m p h D := by
  obtain ⟨a, b, c, d, e⟩ := hI
  exact ⟨by rw [s9_ne (by omega) (by omega)]; exact a, by rw [s9_ne (by omega) (by omega)]; exact b, c, d, fun i j k hi hj hk => by rw [s9_9]; exact hf i j k hi hj hk⟩
theorem va_i {q i : Nat} {x : Int32} : va_up f q x i = if i = q then x else f i := rfl
/-- what a pair of units writes into the table -/
def lw (n : Nat) (t : Nat → Int32) (k : Nat) : Int32 := if k < n then Int32.ofInt 0 else if k < 2 * n then t (k - n) else Int32.ofInt 0
theorem ix328 {i : Nat} : Int32.ofInt 328 + nI i = nI (8 * 41 + i) := by rw [show Int32.ofInt 328 = nI 328 from rfl, nI_add]
theorem ix336 {i : Nat} : Int32.ofInt 336 + nI i = nI (8 * 42 + i) := by rw [show Int32.ofInt 336 = nI 336 from rfl, nI_add]
theorem ixA {i j k n : Nat} : Int32.ofInt 64 * (nI i + nI n) + Int32.ofInt 8 * nI j + nI k = nI (64 * (i + n) + 8 * j + k) := by rw [nI_add]; exact ix64e
theorem ixB {i j k n : Nat} : Int32.ofInt 64 * nI i + Int32.ofInt 8 * (nI j + nI n) + nI k = nI (64 * i + 8 * (j + n) + k) := by rw [nI_add]; exact ix64e
theorem ixC {i j k n : Nat} : Int32.ofInt 64 * (nI i + nI n) + Int32.ofInt 8 * (nI j + nI n) + nI k = nI (64 * (i + n) + 8 * (j + n) + k) := by rw [nI_add, nI_add]; exact ix64e
theorem rg_9 : rg (s9 I m f g) m G (m + 9) = f := (rg_ne (by omega)).trans s9_9
theorem rg_10 : rg (s9 I m f g) m G (m + 10) = g := (rg_ne (by omega)).trans s9_10
set_option maxHeartbeats 8000000 in
theorem m_grow [NeZero p] {d' : Nat} {z1 : Int32} {X : TR p D h} {post : Option Value → Me → Prop} (hM : MoM M m) (hA : MoA I m p h D) (hh : h < 3) (hz1 : z1 = nI a) (ha : a < 64) (fa : a < 40 ∨ 43 ≤ a) (hX : G a = vE p D h X) (hns : ¬ @Sq (TR p D h) (TI p D h) X) (hd : d + 2 ≤ d') (hp : ∀ I1 G1 J1, MoA I1 m p (h + 1) (gD D h (tV p D h X)) → (∀ s, (s < 40 ∨ 43 ≤ s) → G1 s = G s) → (∀ c, c ≠ m → c ≠ m + 8 → c ≠ m + 9 → c ≠ m + 10 → I1 c = I c) → (∀ q, q ≠ 1 → I1 m q = I m q) → (∀ q, (q < 8 * h ∨ 8 * h + 8 ≤ q) → I1 (m + 8) q = I (m + 8) q) → post none (St M (rg I1 m G1) J1)) : Ok K d' 108 [.ref m, .int z1] (St M (rg I m G) J) post := by
  refine Ok.up (d := d + 2) (post := post) ?_ hd (fun _ _ h => h)
  subst hz1
  have hDn := gD_tOk hA.2.2.1 hns
  have hD'h : gD D h (tV p D h X) h = tV p D h X := gD_eq
  have hA' : MoA I m p h (gD D h (tV p D h X)) := MoA_congr (fun i hi => (gD_lt hi).symm) hA
  have hX' : vE p D h X = vE p (gD D h (tV p D h X)) h (oV p (gD D h (tV p D h X)) h (gD D h (tV p D h X) h)) := by
    rw [hD'h]
    exact funext (fun j => congrArg nI (congrFun (cv_tV (p := p) (D := D) (D' := gD D h (tV p D h X)) (Nat.le_refl h) X) j).symm)
  rw [hX'] at hX
  clear hX' hD'h hA hns
  generalize gD D h (tV p D h X) = E at hX hA' hDn hp
  have hI := hA'.1
  have hpb := hI.2.2.2.1
  have hp4 := p4 hh
  have hpw : 2 ^ (h + 1) = 2 * 2 ^ h := by rw [Nat.pow_succ]; omega
  have e0 : Int32.ofInt 1 <<< (rg I m G m 1 &&& 31) = nI (2 ^ h) := by rw [rg_m, hI.2.1]; exact shl1 h (by omega)
  refine Ok.go (e := me_108) rfl rfl (Nat.le_of_ble_eq_true rfl) hM.c ?_
  generalize hpost : (fun (r : Option Value) (M1 : Me) => rok me_108.2.2.2.1 r = true ∧ post r M1) = pst9
  generalize hn : 2 ^ h = n at hpw hp4
  have hb9 := hM.a512 (a := m + 9) (by omega)
  have hb10 := hM.a512 (a := m + 10) (by omega)
  -- I with the base written
  generalize hB : (fun c => if c = m + 8 then (fun q => if 8 * h ≤ q ∧ q < 8 * h + 8 then vE p E h (oV p E h (E h)) (q - 8 * h) else I (m + 8) q) else I c : Nat → Nat → Int32) = IB
  have hB8 : ∀ q, IB (m + 8) q = if 8 * h ≤ q ∧ q < 8 * h + 8 then vE p E h (oV p E h (E h)) (q - 8 * h) else I (m + 8) q := fun q => by rw [← hB]; exact congrFun (if_pos rfl) q
  have hBn : ∀ c, c ≠ m + 8 → IB c = I c := fun c hc => by rw [← hB]; exact if_neg hc
  have hIB : MoI IB m p h E := by
    obtain ⟨a1, a2, a3, a4, a5⟩ := hI
    exact ⟨by rw [hBn m (by omega)]; exact a1, by rw [hBn m (by omega)]; exact a2, a3, a4, fun i j k hi hj hk => by rw [hBn _ (by omega)]; exact a5 i j k hi hj hk⟩
  have htab : ∀ i j k, i < n → j < n → k < 8 → I (m + 9) (64 * i + 8 * j + k) = nI (tbF p E h i j k) := fun i j k hi hj hk => hI.2.2.2.2 i j k (by omega) (by omega) hk
  -- what a pair leaves
  generalize hpr : (fun i j k => nI (tV p E h ((TI p E h).mul ((TI p E h).mul (oV p E h (un i)) (oV p E h (un j))) (oV p E h (E h))) k) : Nat → Nat → Nat → Int32) = pr
  -- the end
  have fin : ∀ (f g : Nat → Int32) (G1 : Nat → Nat → Int32) (J1 : Nat → Nat → Int64), (∀ s, (s < 40 ∨ 43 ≤ s) → G1 s = G s) → (∀ i j k, i < n → j < n → k < 8 → f (64 * i + 8 * j + k) = nI (tbF p E h i j k)) → (∀ i j k, i < n → j < n → k < 8 → f (64 * (i + n) + 8 * j + k) = lw n (fun q => nI (tbF p E h i j q)) k ∧ f (64 * i + 8 * (j + n) + k) = lw n (fun q => nI (tbF p E h i j q)) k ∧ f (64 * (i + n) + 8 * (j + n) + k) = pr i j k) → Rf K (d + 1) mc_108 217 (lk [(0, .ref m)]) [] (St M (rg (s9 IB m f g) m G1) J1) pst9 := by
    intro f g G1 J1 hG h1 h2
    refine Rf.go 100 [] ?_
    refine And.intro rfl ?_
    refine And.intro hM.c ?_
    refine And.intro hM.c ?_
    rw [← hpost]
    refine ⟨rfl, ?_⟩
    have e1 : rg (s9 IB m f g) m G1 m 1 + Int32.ofInt 1 = nI (h + 1) := by rw [rg_m, s9_ne (by omega) (by omega), hIB.2.1]; exact nI_1 h
    have e2 : u2 (rg (s9 IB m f g) m G1) m 1 (rg (s9 IB m f g) m G1 m 1 + Int32.ofInt 1) = rg (u2 (s9 IB m f g) m 1 (nI (h + 1))) m G1 := by rw [e1, rg_u2 (by omega)]
    have un_ : ∀ c, c ≠ m → u2 (s9 IB m f g) m 1 (nI (h + 1)) c = s9 IB m f g c := fun c hc => u2_ne hc
    have um : ∀ q, q ≠ 1 → u2 (s9 IB m f g) m 1 (nI (h + 1)) m q = I m q := fun q hq => by rw [u2_at, if_neg hq, s9_ne (by omega) (by omega), hBn m (by omega)]
    have := hp (u2 (s9 IB m f g) m 1 (nI (h + 1))) G1 J1 ⟨⟨?_, ?_, by omega, hpb, fun i j k hi hj hk => ?_⟩, fun i hi j hj => ?_, hDn, hA'.2.2.2⟩ hG (fun c c1 c2 c3 c4 => ?_) um (fun q hq => ?_)
    · rw [← e2] at this
      exact this
    · rw [um 0 (by decide)]; exact hI.1
    · rw [u2_at, if_pos rfl]
    · rw [un_ _ (by omega), s9_9]
      rw [hpw] at hi hj
      have lwN : ∀ i j, lw n (fun q => nI (tbF p E h i j q)) k = nI (if k < 2 ^ h then 0 else if k < 2 * 2 ^ h then tbF p E h i j (k - 2 ^ h) else 0) := fun i j => by
        unfold lw
        rw [hn]
        by_cases q1 : k < n
        · rw [if_pos q1, if_pos q1]; rfl
        · rw [if_neg q1, if_neg q1]
          by_cases q2 : k < 2 * n
          · rw [if_pos q2, if_pos q2]
          · rw [if_neg q2, if_neg q2]; rfl
      by_cases hi2 : i < n
      · by_cases hj2 : j < n
        · rw [h1 i j k hi2 hj2 hk, (tbF_up (by omega) hh (by omega) (by omega) k).1]
        · obtain ⟨j2, rfl⟩ : ∃ j2, j = j2 + n := ⟨j - n, by omega⟩
          have := (tbF_up (p := p) (D := E) (i := i) (j := j2) (by omega) hh (by omega) (by omega) k).2.2.1
          rw [hn] at this
          rw [(h2 i j2 k hi2 (by omega) hk).2.1, lwN, this, hn]
      · obtain ⟨i2, rfl⟩ : ∃ i2, i = i2 + n := ⟨i - n, by omega⟩
        by_cases hj2 : j < n
        · have := (tbF_up (p := p) (D := E) (i := i2) (j := j) (by omega) hh (by omega) (by omega) k).2.1
          rw [hn] at this
          rw [(h2 i2 j k (by omega) hj2 hk).1, lwN, this, hn]
        · obtain ⟨j2, rfl⟩ : ∃ j2, j = j2 + n := ⟨j - n, by omega⟩
          have := (tbF_up (p := p) (D := E) (i := i2) (j := j2) (by omega) hh (by omega) (by omega) k).2.2.2
          rw [hn] at this
          rw [(h2 i2 j2 k (by omega) (by omega) hk).2.2, this, ← hpr]
    · rw [un_ _ (by omega), s9_ne (by omega) (by omega), hB8]
      by_cases e : i = h
      · subst e
        rw [if_pos (by omega), Nat.add_sub_cancel_left]
        rfl
      · rw [if_neg (by omega)]
        exact hA'.2.1 i (by omega) j hj
    · rw [un_ _ c1, s9_ne c3 c4, hBn c c2]
    · rw [un_ _ (by omega), s9_ne (by omega) (by omega), hB8, if_neg (by omega)]
  -- the second loops
  have lin : ∀ i j k, k < 8 → (64 * i + 8 * j + k) / 8 = 8 * i + j ∧ (64 * i + 8 * j + k) % 8 = k := fun i j k hk => by omega
  have second : ∀ (f0 g : Nat → Int32) (G1 : Nat → Nat → Int32) (J1 : Nat → Nat → Int64), (∀ s, (s < 40 ∨ 43 ≤ s) → G1 s = G s) → (∀ i j k, i < n → j < n → k < 8 → f0 (64 * i + 8 * j + k) = nI (tbF p E h i j k)) → (∀ i j k, i < n → j < n → k < 8 → f0 (64 * (i + n) + 8 * j + k) = lw n (fun q => nI (tbF p E h i j q)) k ∧ f0 (64 * i + 8 * (j + n) + k) = lw n (fun q => nI (tbF p E h i j q)) k ∧ g (64 * i + 8 * j + k) = pr i j k) → ∀ i, i ≤ n → ∀ f : Nat → Int32, (∀ i' j' k', i' < 8 → j' < 8 → k' < 8 → ¬ (n ≤ i' ∧ n ≤ j') → f (64 * i' + 8 * j' + k') = f0 (64 * i' + 8 * j' + k')) → (∀ i' j' k', i' < i → j' < n → k' < 8 → f (64 * (i' + n) + 8 * (j' + n) + k') = pr i' j' k') → Rf K (d + 1) mc_108 170 (lk [(3, .int (nI i)), (2, .int (nI n)), (0, .ref m)]) [] (St M (rg (s9 IB m f g) m G1) J1) pst9 := by
    intro f0 g G1 J1 hG h1 h2
    refine for_up n (fun f hf hd => ?_) (fun i hi ih f hf hd => ?_)
    · refine Rf.go 100 [217] ?_
      refine And.intro (fun _ => ?_) (fun hb => absurd ((geN (by omega) (by omega)).mpr (Nat.le_refl _)) hb)
      refine Rf.weak [(0, .ref m)] ⟨rfl, trivial⟩ (fin f g G1 J1 hG (fun i j k hi hj hk => ?_) (fun i j k hi hj hk => ⟨?_, ?_, hd i j k hi hj hk⟩))
      · rw [hf i j k (by omega) (by omega) hk (by omega)]; exact h1 i j k hi hj hk
      · rw [hf (i + n) j k (by omega) (by omega) hk (by omega)]; exact (h2 i j k hi hj hk).1
      · rw [hf i (j + n) k (by omega) (by omega) hk (by omega)]; exact (h2 i j k hi hj hk).2.1
    · refine Rf.go 100 [175] ?_
      refine And.intro (fun hb => absurd ((geN (by omega) (by omega)).mp hb) (by omega)) (fun _ => ?_)
      refine Rf.weak [(4, .int (nI 0)), (3, .int (nI i)), (2, .int (nI n)), (0, .ref m)] ⟨rfl, rfl, rfl, rfl, trivial⟩ ?_
      have mid : ∀ j, j ≤ n → ∀ f : Nat → Int32, (∀ i' j' k', i' < 8 → j' < 8 → k' < 8 → ¬ (n ≤ i' ∧ n ≤ j') → f (64 * i' + 8 * j' + k') = f0 (64 * i' + 8 * j' + k')) → (∀ i' j' k', (i' < i ∨ i' = i ∧ j' < j) → j' < n → k' < 8 → f (64 * (i' + n) + 8 * (j' + n) + k') = pr i' j' k') → Rf K (d + 1) mc_108 175 (lk [(4, .int (nI j)), (3, .int (nI i)), (2, .int (nI n)), (0, .ref m)]) [] (St M (rg (s9 IB m f g) m G1) J1) pst9 := by
        refine for_up n (fun f hf hd => ?_) (fun j hj ihj f hf hd => ?_)
        · refine Rf.go 100 [170] ?_
          refine And.intro (fun _ => ?_) (fun hb => absurd ((geN (by omega) (by omega)).mpr (Nat.le_refl _)) hb)
          exact Rf.weak [(3, .int (nI (i + 1))), (2, .int (nI n)), (0, .ref m)] ⟨inc1 i, rfl, rfl, trivial⟩ (ih f hf (fun i' j' k' q1 q2 q3 => hd i' j' k' (by omega) q2 q3))
        · refine Rf.go 100 [180] ?_
          refine And.intro (fun hb => absurd ((geN (by omega) (by omega)).mp hb) (by omega)) (fun _ => ?_)
          refine Rf.weak [(5, .int (nI 0)), (4, .int (nI j)), (3, .int (nI i)), (2, .int (nI n)), (0, .ref m)] ⟨rfl, rfl, rfl, rfl, rfl, trivial⟩ ?_
          have inn : ∀ k, k ≤ 8 → ∀ f : Nat → Int32, (∀ i' j' k', i' < 8 → j' < 8 → k' < 8 → ¬ (n ≤ i' ∧ n ≤ j') → f (64 * i' + 8 * j' + k') = f0 (64 * i' + 8 * j' + k')) → (∀ i' j' k', (i' < i ∨ i' = i ∧ (j' < j ∨ j' = j ∧ k' < k)) → j' < n → k' < 8 → f (64 * (i' + n) + 8 * (j' + n) + k') = pr i' j' k') → Rf K (d + 1) mc_108 180 (lk [(5, .int (nI k)), (4, .int (nI j)), (3, .int (nI i)), (2, .int (nI n)), (0, .ref m)]) [] (St M (rg (s9 IB m f g) m G1) J1) pst9 := by
            refine for_up 8 (fun f hf hd => ?_) (fun k hk ihk f hf hd => ?_)
            · refine Rf.go 100 [175] ?_
              refine And.intro (fun _ => ?_) (fun hb => (ge8n hb).elim)
              exact Rf.weak [(4, .int (nI (j + 1))), (3, .int (nI i)), (2, .int (nI n)), (0, .ref m)] ⟨inc1 j, rfl, rfl, rfl, trivial⟩ (ihj f hf (fun i' j' k' q1 q2 q3 => hd i' j' k' (by omega) q2 q3))
            · refine Rf.go 100 [180] ?_
              refine And.intro (fun hb => (ge8 hk hb).elim) (fun _ => ?_)
              refine And.intro hM.c ⟨m + 9, hM.r12, ?_⟩
              refine And.intro hM.c ⟨m + 10, hM.r13, ?_⟩
              refine Or.inr (And.intro ⟨hb10.1, ?_⟩ ?_)
              · show inb (Int32.ofInt 64 * nI i + Int32.ofInt 8 * nI j + nI k) (mH M (m + 10)).2 = true
                rw [ix64e, hb10.2]
                exact inb_n (by omega) (by omega)
              refine And.intro ⟨hb9.1, ?_⟩ ?_
              · show inb (Int32.ofInt 64 * (nI i + nI n) + Int32.ofInt 8 * (nI j + nI n) + nI k) (mH M (m + 9)).2 = true
                rw [ixC, hb9.2]
                exact inb_n (by omega) (by omega)
              have e1 : u2 (rg (s9 IB m f g) m G1) (m + 9) (Int32.ofInt 64 * (nI i + nI n) + Int32.ofInt 8 * (nI j + nI n) + nI k).toNatClampNeg (rg (s9 IB m f g) m G1 (m + 10) (Int32.ofInt 64 * nI i + Int32.ofInt 8 * nI j + nI k).toNatClampNeg) = rg (s9 IB m (va_up f (64 * (i + n) + 8 * (j + n) + k) (pr i j k)) g) m G1 := by
                rw [ixC, nI_clamp (by omega), ix64e, nI_clamp (by omega), rg_10, (h2 i j k hi hj hk).2.2, rg_u2 (by omega), s9_u9]
              have ih2 := ihk (va_up f (64 * (i + n) + 8 * (j + n) + k) (pr i j k)) (fun i' j' k' q1 q2 q3 q4 => by rw [va_i, if_neg (by omega)]; exact hf i' j' k' q1 q2 q3 q4) (fun i' j' k' q1 q2 q3 => by
                rw [va_i]
                by_cases e : i' = i ∧ j' = j ∧ k' = k
                · obtain ⟨rfl, rfl, rfl⟩ := e
                  exact if_pos rfl
                · rw [if_neg (by omega)]
                  exact hd i' j' k' (by omega) q2 q3)
              rw [← e1] at ih2
              exact Rf.weak [(5, .int (nI (k + 1))), (4, .int (nI j)), (3, .int (nI i)), (2, .int (nI n)), (0, .ref m)] ⟨inc1 k, rfl, rfl, rfl, rfl, trivial⟩ ih2
          exact inn 0 (by omega) f hf (fun i' j' k' q1 q2 q3 => hd i' j' k' (by omega) q2 q3)
      exact mid 0 (by omega) f hf (fun i' j' k' q1 q2 q3 => hd i' j' k' (by omega) q2 q3)
  -- one pair of units: the last loop of its three
  have pairL : ∀ (i j : Nat) (f g : Nat → Int32) (G1 : Nat → Nat → Int32) (J1 : Nat → Nat → Int64), i < n → j < n → (∀ k, k < 8 → f (64 * i + 8 * j + k) = nI (tbF p E h i j k)) → (∀ k, k < 8 → G1 42 k = pr i j k) → (Rf K (d + 1) mc_108 40 (lk [(4, .int (nI (j + 1))), (3, .int (nI i)), (2, .int (nI n)), (0, .ref m)]) [] (St M (rg (s9 IB m (fun q => if (q / 8 = 8 * (i + n) + j ∨ q / 8 = 8 * i + (j + n)) ∧ q % 8 < 8 then lw n (fun q => nI (tbF p E h i j q)) (q % 8) else f q) (fun q => if q / 8 = 8 * i + j ∧ q % 8 < 8 then pr i j (q % 8) else g q)) m G1) J1) pst9) → ∀ k, k ≤ 8 → Rf K (d + 1) mc_108 77 (lk [(5, .int (nI k)), (4, .int (nI j)), (3, .int (nI i)), (2, .int (nI n)), (0, .ref m)]) [] (St M (rg (s9 IB m (fun q => if (q / 8 = 8 * (i + n) + j ∨ q / 8 = 8 * i + (j + n)) ∧ q % 8 < k then lw n (fun q => nI (tbF p E h i j q)) (q % 8) else f q) (fun q => if q / 8 = 8 * i + j ∧ q % 8 < k then pr i j (q % 8) else g q)) m G1) J1) pst9 := by
    intro i j f g G1 J1 hi hj hf hG42 hnext
    refine for_up 8 ?_ (fun k hk ih => ?_)
    · refine Rf.go 100 [40] ?_
      refine And.intro (fun _ => ?_) (fun hb => (ge8n hb).elim)
      exact Rf.weak [(4, .int (nI (j + 1))), (3, .int (nI i)), (2, .int (nI n)), (0, .ref m)] ⟨inc1 j, rfl, rfl, rfl, trivial⟩ hnext
    · generalize hfk : (fun q => if (q / 8 = 8 * (i + n) + j ∨ q / 8 = 8 * i + (j + n)) ∧ q % 8 < k then lw n (fun q => nI (tbF p E h i j q)) (q % 8) else f q : Nat → Int32) = fk
      generalize hgk : (fun q => if q / 8 = 8 * i + j ∧ q % 8 < k then pr i j (q % 8) else g q : Nat → Int32) = gk
      have hfl : ∀ q, q < 8 → fk (64 * i + 8 * j + q) = nI (tbF p E h i j q) := fun q hq => by
        rw [← hfk]
        show (if ((64 * i + 8 * j + q) / 8 = 8 * (i + n) + j ∨ (64 * i + 8 * j + q) / 8 = 8 * i + (j + n)) ∧ (64 * i + 8 * j + q) % 8 < k then _ else f (64 * i + 8 * j + q)) = _
        rw [if_neg (by omega)]
        exact hf q hq
      have n1 : (n = 1 ∨ n = 2 ∨ n = 4) := by
        rw [← hn]
        rcases (show h = 0 ∨ h = 1 ∨ h = 2 by omega) with rfl | rfl | rfl <;> decide
      -- the three writes, from place 100 on
      have wr : ∀ v : Int32, (k < 2 * n → v = lw n (fun q => nI (tbF p E h i j q)) k) → Rf K (d + 1) mc_108 100 (lk ((6, .int v) :: [(5, .int (nI k)), (4, .int (nI j)), (3, .int (nI i)), (2, .int (nI n)), (0, .ref m)])) [] (St M (rg (s9 IB m fk gk) m G1) J1) pst9 := by
        intro v hv
        have key : ∀ x : Int32, x = lw n (fun q => nI (tbF p E h i j q)) k → u2 (u2 (u2 (rg (s9 IB m fk gk) m G1) (m + 9) (Int32.ofInt 64 * (nI i + nI n) + Int32.ofInt 8 * nI j + nI k).toNatClampNeg x) (m + 9) (Int32.ofInt 64 * nI i + Int32.ofInt 8 * (nI j + nI n) + nI k).toNatClampNeg x) (m + 10) (Int32.ofInt 64 * nI i + Int32.ofInt 8 * nI j + nI k).toNatClampNeg (u2 (u2 (rg (s9 IB m fk gk) m G1) (m + 9) (Int32.ofInt 64 * (nI i + nI n) + Int32.ofInt 8 * nI j + nI k).toNatClampNeg x) (m + 9) (Int32.ofInt 64 * nI i + Int32.ofInt 8 * (nI j + nI n) + nI k).toNatClampNeg x (m + 11) (Int32.ofInt 336 + nI k).toNatClampNeg) = rg (s9 IB m (fun q => if (q / 8 = 8 * (i + n) + j ∨ q / 8 = 8 * i + (j + n)) ∧ q % 8 < k + 1 then lw n (fun q => nI (tbF p E h i j q)) (q % 8) else f q) (fun q => if q / 8 = 8 * i + j ∧ q % 8 < k + 1 then pr i j (q % 8) else g q)) m G1 := by
          intro x hx
          have er : u2 (u2 (rg (s9 IB m fk gk) m G1) (m + 9) (Int32.ofInt 64 * (nI i + nI n) + Int32.ofInt 8 * nI j + nI k).toNatClampNeg x) (m + 9) (Int32.ofInt 64 * nI i + Int32.ofInt 8 * (nI j + nI n) + nI k).toNatClampNeg x (m + 11) (Int32.ofInt 336 + nI k).toNatClampNeg = pr i j k := by
            rw [u2_ne (by omega), u2_ne (by omega), ix336, nI_clamp (by omega), rg_at hk]
            exact hG42 k hk
          rw [er, ixA, ixB, ix64e, nI_clamp (by omega), nI_clamp (by omega), nI_clamp (by omega), rg_u2 (by omega), s9_u9, rg_u2 (by omega), s9_u9, rg_u2 (by omega), s9_u10]
          congr 1
          congr 1
          · funext q
            rw [va_i, va_i, ← hfk]
            by_cases c1 : q = 64 * i + 8 * (j + n) + k
            · rw [if_pos c1, if_pos (by omega), show q % 8 = k by omega, hx]
            · rw [if_neg c1]
              by_cases c2 : q = 64 * (i + n) + 8 * j + k
              · rw [if_pos c2, if_pos (by omega), show q % 8 = k by omega, hx]
              · rw [if_neg c2]
                by_cases c3 : (q / 8 = 8 * (i + n) + j ∨ q / 8 = 8 * i + (j + n)) ∧ q % 8 < k
                · dsimp only; rw [if_pos c3, if_pos (by omega)]
                · dsimp only; rw [if_neg c3, if_neg (by omega)]
          · funext q
            rw [va_i, ← hgk]
            by_cases c1 : q = 64 * i + 8 * j + k
            · rw [if_pos c1, if_pos (by omega), show q % 8 = k by omega]
            · rw [if_neg c1]
              by_cases c3 : q / 8 = 8 * i + j ∧ q % 8 < k
              · dsimp only; rw [if_pos c3, if_pos (by omega)]
              · dsimp only; rw [if_neg c3, if_neg (by omega)]
        have i1 : inb (Int32.ofInt 64 * (nI i + nI n) + Int32.ofInt 8 * nI j + nI k) (mH M (m + 9)).2 = true := by
          rw [ixA, hb9.2]; exact inb_n (by omega) (by omega)
        have i2 : inb (Int32.ofInt 64 * nI i + Int32.ofInt 8 * (nI j + nI n) + nI k) (mH M (m + 9)).2 = true := by
          rw [ixB, hb9.2]; exact inb_n (by omega) (by omega)
        have i3 : inb (Int32.ofInt 64 * nI i + Int32.ofInt 8 * nI j + nI k) (mH M (m + 10)).2 = true := by
          rw [ix64e, hb10.2]; exact inb_n (by omega) (by omega)
        have i4 : inb (Int32.ofInt 336 + nI k) (mH M (m + 11)).2 = true := by
          rw [ix336, (hM.a512 (a := m + 11) (by omega)).2]; exact inb_n (by omega) (by omega)
        have e2n : Int32.ofInt 2 * nI n = nI (2 * n) := by rw [show Int32.ofInt 2 = nI 2 from rfl, pk_mul]
        have hge : cmpI .ge (nI k) (Int32.ofInt 2 * nI n) = true ↔ 2 * n ≤ k := by rw [e2n]; exact geN (by omega) (by omega)
        refine Rf.go 200 [77] ?_
        refine And.intro hM.c ⟨m + 9, hM.r12, ?_⟩
        refine And.intro (fun hc => ?_) (fun hc => ?_)
        · have hc2 := hge.mp hc
          refine And.intro ⟨hb9.1, i1⟩ ?_
          refine And.intro hM.c ⟨m + 9, hM.r12, ?_⟩
          refine And.intro (fun _ => ?_) (fun hc3 => absurd hc hc3)
          refine And.intro ⟨hb9.1, i2⟩ ?_
          refine And.intro hM.c ⟨m + 10, hM.r13, ?_⟩
          refine And.intro hM.c ⟨m + 11, hM.r14, ?_⟩
          refine Or.inr (And.intro ⟨hM.rcg, i4⟩ ?_)
          refine And.intro ⟨hb10.1, i3⟩ ?_
          have e := key (Int32.ofInt 0) (by unfold lw; rw [if_neg (by omega), if_neg (by omega)])
          rw [← e] at ih
          exact Rf.weak [(5, .int (nI (k + 1))), (4, .int (nI j)), (3, .int (nI i)), (2, .int (nI n)), (0, .ref m)] ⟨inc1 k, rfl, rfl, rfl, rfl, trivial⟩ ih
        · have hc2 : k < 2 * n := by
            apply Classical.byContradiction
            intro q
            exact hc (hge.mpr (by omega))
          refine And.intro ⟨hb9.1, i1⟩ ?_
          refine And.intro hM.c ⟨m + 9, hM.r12, ?_⟩
          refine And.intro (fun hc3 => absurd hc3 hc) (fun _ => ?_)
          refine And.intro ⟨hb9.1, i2⟩ ?_
          refine And.intro hM.c ⟨m + 10, hM.r13, ?_⟩
          refine And.intro hM.c ⟨m + 11, hM.r14, ?_⟩
          refine Or.inr (And.intro ⟨hM.rcg, i4⟩ ?_)
          refine And.intro ⟨hb10.1, i3⟩ ?_
          have e := key v (hv hc2)
          rw [← e] at ih
          exact Rf.weak [(5, .int (nI (k + 1))), (4, .int (nI j)), (3, .int (nI i)), (2, .int (nI n)), (0, .ref m)] ⟨inc1 k, rfl, rfl, rfl, rfl, trivial⟩ ih
      refine Rf.go 100 [77, 100] ?_
      refine And.intro (fun hb => (ge8 hk hb).elim) (fun _ => ?_)
      refine And.intro (fun hc => ?_) (fun hc => ?_)
      · have hc := (geN (by omega) (by omega)).mp hc
        have ei : Int32.ofInt 64 * nI i + Int32.ofInt 8 * nI j + nI k - nI n = nI (64 * i + 8 * j + (k - n)) := by
          rw [ix64e, pk_sub (by omega)]
          congr 1
          omega
        refine And.intro hM.c ⟨m + 9, hM.r12, ?_⟩
        refine Or.inr (And.intro ⟨hb9.1, ?_⟩ ?_)
        · show inb (Int32.ofInt 64 * nI i + Int32.ofInt 8 * nI j + nI k - nI n) (mH M (m + 9)).2 = true
          rw [ei, hb9.2]
          exact inb_n (by omega) (by omega)
        refine Rf.weak ((6, .int (nI (tbF p E h i j (k - n)))) :: [(5, .int (nI k)), (4, .int (nI j)), (3, .int (nI i)), (2, .int (nI n)), (0, .ref m)]) ⟨congrArg (fun z => some (Value.int z)) ?_, rfl, rfl, rfl, rfl, rfl, trivial⟩ (wr _ (fun q => ?_))
        · show rg (s9 IB m fk gk) m G1 (m + 9) (Int32.ofInt 64 * nI i + Int32.ofInt 8 * nI j + nI k - nI n).toNatClampNeg = _
          rw [ei, nI_clamp (by omega), rg_9]
          exact hfl (k - n) (by omega)
        · unfold lw
          rw [if_neg (by omega), if_pos q]
      · have hc : k < n := by
          apply Classical.byContradiction
          intro q
          exact hc ((geN (by omega) (by omega)).mpr (by omega))
        exact Rf.weak ((6, .int (Int32.ofInt 0)) :: [(5, .int (nI k)), (4, .int (nI j)), (3, .int (nI i)), (2, .int (nI n)), (0, .ref m)]) ⟨rfl, rfl, rfl, rfl, rfl, rfl, trivial⟩ (wr _ (fun _ => by unfold lw; rw [if_pos hc]))
  -- the first loops
  have first : ∀ i, i ≤ n → ∀ (f g : Nat → Int32) (G1 : Nat → Nat → Int32) (J1 : Nat → Nat → Int64), (∀ s, (s < 40 ∨ 43 ≤ s) → G1 s = G s) → G1 40 = vE p E h (oV p E h (E h)) → (∀ i j k, i < n → j < n → k < 8 → f (64 * i + 8 * j + k) = nI (tbF p E h i j k)) → (∀ i' j k, i' < i → j < n → k < 8 → f (64 * (i' + n) + 8 * j + k) = lw n (fun q => nI (tbF p E h i' j q)) k ∧ f (64 * i' + 8 * (j + n) + k) = lw n (fun q => nI (tbF p E h i' j q)) k ∧ g (64 * i' + 8 * j + k) = pr i' j k) → Rf K (d + 1) mc_108 35 (lk [(3, .int (nI i)), (2, .int (nI n)), (0, .ref m)]) [] (St M (rg (s9 IB m f g) m G1) J1) pst9 := by
    refine for_up n (fun f g G1 J1 hG h40 hf hd => ?_) (fun i hi ih f g G1 J1 hG h40 hf hd => ?_)
    · refine Rf.go 100 [170] ?_
      refine And.intro (fun _ => ?_) (fun hb => absurd ((geN (by omega) (by omega)).mpr (Nat.le_refl _)) hb)
      exact Rf.weak [(3, .int (nI 0)), (2, .int (nI n)), (0, .ref m)] ⟨rfl, rfl, rfl, trivial⟩ (second f g G1 J1 hG hf hd 0 (Nat.zero_le _) f (fun _ _ _ _ _ _ _ => rfl) (fun i' j' k' q => absurd q (Nat.not_lt_zero _)))
    · refine Rf.go 100 [40] ?_
      refine And.intro (fun hb => absurd ((geN (by omega) (by omega)).mp hb) (by omega)) (fun _ => ?_)
      refine Rf.weak [(4, .int (nI 0)), (3, .int (nI i)), (2, .int (nI n)), (0, .ref m)] ⟨rfl, rfl, rfl, rfl, trivial⟩ ?_
      have mid : ∀ j, j ≤ n → ∀ (f g : Nat → Int32) (G1 : Nat → Nat → Int32) (J1 : Nat → Nat → Int64), (∀ s, (s < 40 ∨ 43 ≤ s) → G1 s = G s) → G1 40 = vE p E h (oV p E h (E h)) → (∀ i j k, i < n → j < n → k < 8 → f (64 * i + 8 * j + k) = nI (tbF p E h i j k)) → (∀ i' j' k, (i' < i ∨ i' = i ∧ j' < j) → j' < n → k < 8 → f (64 * (i' + n) + 8 * j' + k) = lw n (fun q => nI (tbF p E h i' j' q)) k ∧ f (64 * i' + 8 * (j' + n) + k) = lw n (fun q => nI (tbF p E h i' j' q)) k ∧ g (64 * i' + 8 * j' + k) = pr i' j' k) → Rf K (d + 1) mc_108 40 (lk [(4, .int (nI j)), (3, .int (nI i)), (2, .int (nI n)), (0, .ref m)]) [] (St M (rg (s9 IB m f g) m G1) J1) pst9 := by
        refine for_up n (fun f g G1 J1 hG h40 hf hd => ?_) (fun j hj ihj f g G1 J1 hG h40 hf hd => ?_)
        · refine Rf.go 100 [35] ?_
          refine And.intro (fun _ => ?_) (fun hb => absurd ((geN (by omega) (by omega)).mpr (Nat.le_refl _)) hb)
          exact Rf.weak [(3, .int (nI (i + 1))), (2, .int (nI n)), (0, .ref m)] ⟨inc1 i, rfl, rfl, trivial⟩ (ih f g G1 J1 hG h40 hf (fun i' j' k' q1 q2 q3 => hd i' j' k' (by omega) q2 q3))
        · refine Rf.go 100 [45] ?_
          refine And.intro (fun hb => absurd ((geN (by omega) (by omega)).mp hb) (by omega)) (fun _ => ?_)
          refine Rf.weak [(5, .int (nI 0)), (4, .int (nI j)), (3, .int (nI i)), (2, .int (nI n)), (0, .ref m)] ⟨rfl, rfl, rfl, rfl, rfl, trivial⟩ ?_
          have hs9 : MoI (s9 IB m f g) m p h E := s9_MoI hIB (fun i j k q1 q2 q3 => hf i j k (by omega) (by omega) q3)
          -- the products' row
          have inn : ∀ k, k ≤ 8 → Rf K (d + 1) mc_108 45 (lk [(5, .int (nI k)), (4, .int (nI j)), (3, .int (nI i)), (2, .int (nI n)), (0, .ref m)]) [] (St M (rg (s9 IB m f g) m (gN G1 41 k (fun q => f (64 * i + 8 * j + q)))) J1) pst9 := by
            refine for_up 8 ?_ (fun k hk ihk => ?_)
            · refine Rf.go 100 [77] ?_
              refine And.intro (fun _ => ?_) (fun hb => (ge8n hb).elim)
              have e41 : rg (s9 IB m f g) m (gN G1 41 8 (fun q => f (64 * i + 8 * j + q))) = rg (s9 IB m f g) m (fu G1 41 (vE p E h ((TI p E h).mul (oV p E h (un i)) (oV p E h (un j))))) := rg_8.trans (rg_fu (fun q hq => hf i j q hi hj hq))
              rw [e41]
              refine x_times (d := d) (r := 42) (a := 41) (b := 40) hM hs9 rfl rfl rfl (by decide) (by decide) (by decide) fu_eq ((fu_ne (by decide)).trans h40) (by omega) (fun G2 J2 q2 f2 => ?_)
              refine Rf.weak [(5, .int (nI 0)), (4, .int (nI j)), (3, .int (nI i)), (2, .int (nI n)), (0, .ref m)] ⟨rfl, rfl, rfl, rfl, rfl, trivial⟩ ?_
              have hg2 : ∀ s, (s < 40 ∨ 43 ≤ s) → G2 s = G s := fun s hs => (f2 s (by omega)).trans ((fu_ne (by omega)).trans (hG s hs))
              have h402 : G2 40 = vE p E h (oV p E h (E h)) := (f2 40 (by decide)).trans ((fu_ne (by decide)).trans h40)
              have nx := ihj (fun q => if (q / 8 = 8 * (i + n) + j ∨ q / 8 = 8 * i + (j + n)) ∧ q % 8 < 8 then lw n (fun q => nI (tbF p E h i j q)) (q % 8) else f q) (fun q => if q / 8 = 8 * i + j ∧ q % 8 < 8 then pr i j (q % 8) else g q) G2 J2 hg2 h402 (fun i' j' k' q1 q2 q3 => by
                show (if ((64 * i' + 8 * j' + k') / 8 = 8 * (i + n) + j ∨ (64 * i' + 8 * j' + k') / 8 = 8 * i + (j + n)) ∧ (64 * i' + 8 * j' + k') % 8 < 8 then _ else f (64 * i' + 8 * j' + k')) = _
                rw [if_neg (by omega)]
                exact hf i' j' k' q1 q2 q3) (fun i' j' k' q1 q2 q3 => by
                by_cases e : i' = i ∧ j' = j
                · obtain ⟨rfl, rfl⟩ := e
                  refine ⟨?_, ?_, ?_⟩
                  · show (if ((64 * (i' + n) + 8 * j' + k') / 8 = 8 * (i' + n) + j' ∨ (64 * (i' + n) + 8 * j' + k') / 8 = 8 * i' + (j' + n)) ∧ (64 * (i' + n) + 8 * j' + k') % 8 < 8 then lw n (fun q => nI (tbF p E h i' j' q)) ((64 * (i' + n) + 8 * j' + k') % 8) else f (64 * (i' + n) + 8 * j' + k')) = _
                    rw [if_pos (by omega), show (64 * (i' + n) + 8 * j' + k') % 8 = k' by omega]
                  · show (if ((64 * i' + 8 * (j' + n) + k') / 8 = 8 * (i' + n) + j' ∨ (64 * i' + 8 * (j' + n) + k') / 8 = 8 * i' + (j' + n)) ∧ (64 * i' + 8 * (j' + n) + k') % 8 < 8 then lw n (fun q => nI (tbF p E h i' j' q)) ((64 * i' + 8 * (j' + n) + k') % 8) else f (64 * i' + 8 * (j' + n) + k')) = _
                    rw [if_pos (by omega), show (64 * i' + 8 * (j' + n) + k') % 8 = k' by omega]
                  · show (if (64 * i' + 8 * j' + k') / 8 = 8 * i' + j' ∧ (64 * i' + 8 * j' + k') % 8 < 8 then pr i' j' ((64 * i' + 8 * j' + k') % 8) else g (64 * i' + 8 * j' + k')) = _
                    rw [if_pos (by omega), show (64 * i' + 8 * j' + k') % 8 = k' by omega]
                · obtain ⟨o1, o2, o3⟩ := hd i' j' k' (by omega) q2 q3
                  have hi8 : i' < n := by omega
                  refine ⟨?_, ?_, ?_⟩
                  · show (if ((64 * (i' + n) + 8 * j' + k') / 8 = 8 * (i + n) + j ∨ (64 * (i' + n) + 8 * j' + k') / 8 = 8 * i + (j + n)) ∧ (64 * (i' + n) + 8 * j' + k') % 8 < 8 then _ else f (64 * (i' + n) + 8 * j' + k')) = _
                    rw [if_neg (by omega)]
                    exact o1
                  · show (if ((64 * i' + 8 * (j' + n) + k') / 8 = 8 * (i + n) + j ∨ (64 * i' + 8 * (j' + n) + k') / 8 = 8 * i + (j + n)) ∧ (64 * i' + 8 * (j' + n) + k') % 8 < 8 then _ else f (64 * i' + 8 * (j' + n) + k')) = _
                    rw [if_neg (by omega)]
                    exact o2
                  · show (if (64 * i' + 8 * j' + k') / 8 = 8 * i + j ∧ (64 * i' + 8 * j' + k') % 8 < 8 then _ else g (64 * i' + 8 * j' + k')) = _
                    rw [if_neg (by omega)]
                    exact o3)
              have pl := pairL i j f g G2 J2 hi hj (fun k hk => hf i j k hi hj hk) (fun k hk => by rw [q2, ← hpr]; rfl) nx 0 (Nat.zero_le _)
              have ez : (fun q => if (q / 8 = 8 * (i + n) + j ∨ q / 8 = 8 * i + (j + n)) ∧ q % 8 < 0 then lw n (fun q => nI (tbF p E h i j q)) (q % 8) else f q : Nat → Int32) = f := funext (fun q => if_neg (by omega))
              have ew : (fun q => if q / 8 = 8 * i + j ∧ q % 8 < 0 then pr i j (q % 8) else g q : Nat → Int32) = g := funext (fun q => if_neg (by omega))
              rw [ez, ew] at pl
              exact pl
            · refine Rf.go 100 [45] ?_
              refine And.intro (fun hb => (ge8 hk hb).elim) (fun _ => ?_)
              refine And.intro hM.c ⟨m + 9, hM.r12, ?_⟩
              refine Or.inr (And.intro ⟨hb9.1, ?_⟩ ?_)
              · show inb (Int32.ofInt 64 * nI i + Int32.ofInt 8 * nI j + nI k) (mH M (m + 9)).2 = true
                rw [ix64e, hb9.2]
                exact inb_n (by omega) (by omega)
              refine And.intro hM.c ⟨m + 11, hM.r14, ?_⟩
              refine And.intro ⟨hM.rcg, ?_⟩ ?_
              · show inb (Int32.ofInt 328 + nI k) (mH M (m + 11)).2 = true
                rw [ix328, (hM.a512 (a := m + 11) (by omega)).2]
                exact inb_n (by omega) (by omega)
              have e : u2 (rg (s9 IB m f g) m (gN G1 41 k (fun q => f (64 * i + 8 * j + q)))) (m + 11) (Int32.ofInt 328 + nI k).toNatClampNeg (rg (s9 IB m f g) m (gN G1 41 k (fun q => f (64 * i + 8 * j + q))) (m + 9) (Int32.ofInt 64 * nI i + Int32.ofInt 8 * nI j + nI k).toNatClampNeg) = rg (s9 IB m f g) m (gN G1 41 (k + 1) (fun q => f (64 * i + 8 * j + q))) := by
                rw [ix328, nI_clamp (by omega), rg_9, ix64e, nI_clamp (by omega), rg_put hk, gN_step rfl]
              rw [← e] at ihk
              exact Rf.weak [(5, .int (nI (k + 1))), (4, .int (nI j)), (3, .int (nI i)), (2, .int (nI n)), (0, .ref m)] ⟨inc1 k, rfl, rfl, rfl, rfl, trivial⟩ ihk
          have := inn 0 (Nat.zero_le _)
          rw [gN_0] at this
          exact this
      exact mid 0 (Nat.zero_le _) f g G1 J1 hG h40 hf (fun i' j' k' q1 q2 q3 => hd i' j' k' (by omega) q2 q3)
  -- the base
  have bs : ∀ k, k ≤ 8 → Rf K (d + 1) mc_108 7 (lk [(3, .int (nI k)), (2, .int (nI n)), (0, .ref m), (1, .int (nI a))]) [] (St M (rg (fun c => if c = m + 8 then (fun q => if 8 * h ≤ q ∧ q < 8 * h + k then vE p E h (oV p E h (E h)) (q - 8 * h) else I (m + 8) q) else I c) m G) J) pst9 := by
    refine for_up 8 ?_ (fun k hk ih => ?_)
    · rw [hB]
      refine Rf.go 100 [35] ?_
      refine And.intro (fun _ => ?_) (fun hb => (ge8n hb).elim)
      refine x_copy (d := d) (r := 40) (a := a) hM rfl rfl (by decide) ha (by omega) (fun G1 J1 q1 f1 => ?_)
      have hst := first 0 (Nat.zero_le _) (IB (m + 9)) (IB (m + 10)) G1 J1 (fun s hs => f1 s (by omega)) (q1.trans hX) (fun i j k q1 q2 q3 => by rw [hBn _ (by omega)]; exact htab i j k q1 q2 q3) (fun i' j k q => absurd q (Nat.not_lt_zero _))
      rw [s9_self] at hst
      exact Rf.weak [(3, .int (nI 0)), (2, .int (nI n)), (0, .ref m)] ⟨rfl, rfl, rfl, trivial⟩ hst
    · generalize hIk : (fun c => if c = m + 8 then (fun q => if 8 * h ≤ q ∧ q < 8 * h + k then vE p E h (oV p E h (E h)) (q - 8 * h) else I (m + 8) q) else I c : Nat → Nat → Int32) = Ik
      have k1 : Ik m 1 = nI h := by rw [← hIk]; exact (congrFun (if_neg (by omega)) 1).trans hI.2.1
      have ei : Int32.ofInt 8 * rg Ik m G m 1 + nI k = nI (8 * h + k) := by rw [rg_m, k1]; exact ix8e
      refine Rf.go 100 [7] ?_
      refine And.intro (fun hb => (ge8 hk hb).elim) (fun _ => ?_)
      refine And.intro hM.c ⟨m + 8, hM.r11, ?_⟩
      refine And.intro hM.c ?_
      refine And.intro hM.c ⟨m + 11, hM.r14, ?_⟩
      refine Or.inr (And.intro ⟨hM.rcg, hM.ing ha hk⟩ ?_)
      refine And.intro ⟨hM.ab.1, ?_⟩ ?_
      · show inb (Int32.ofInt 8 * rg Ik m G m 1 + nI k) (mH M (m + 8)).2 = true
        rw [ei, hM.ab.2]
        exact inb_n (by omega) (by omega)
      have e : u2 (rg Ik m G) (m + 8) (Int32.ofInt 8 * rg Ik m G m 1 + nI k).toNatClampNeg (rg Ik m G (m + 11) (Int32.ofInt 8 * nI a + nI k).toNatClampNeg) = rg (fun c => if c = m + 8 then (fun q => if 8 * h ≤ q ∧ q < 8 * h + (k + 1) then vE p E h (oV p E h (E h)) (q - 8 * h) else I (m + 8) q) else I c) m G := by
        rw [ei, nI_clamp (by omega), rdr ha hk, hX, rg_u2 (by omega), ← hIk]
        congr 1
        funext c
        unfold u2
        dsimp only
        by_cases e1 : c = m + 8
        · rw [if_pos e1, if_pos rfl, if_pos e1]
          funext q
          rw [va_i]
          by_cases e2 : q = 8 * h + k
          · rw [if_pos e2, if_pos (by omega), e2, Nat.add_sub_cancel_left]
          · rw [if_neg e2]
            by_cases e3 : 8 * h ≤ q ∧ q < 8 * h + k
            · rw [if_pos e3, if_pos (by omega)]
            · rw [if_neg e3, if_neg (by omega)]
        · rw [if_neg e1, if_neg e1, if_neg e1]
      rw [← e] at ih
      exact Rf.weak [(3, .int (nI (k + 1))), (2, .int (nI n)), (0, .ref m), (1, .int (nI a))] ⟨inc1 k, rfl, rfl, rfl, trivial⟩ ih
  refine Rf.go 100 [7] ?_
  refine And.intro hM.c ?_
  have hst := bs 0 (Nat.zero_le _)
  have ez : (fun c => if c = m + 8 then (fun q => if 8 * h ≤ q ∧ q < 8 * h + 0 then vE p E h (oV p E h (E h)) (q - 8 * h) else I (m + 8) q) else I c : Nat → Nat → Int32) = I := by
    funext c
    by_cases e1 : c = m + 8
    · rw [if_pos e1, e1]
      funext q
      exact if_neg (by omega)
    · rw [if_neg e1]
  rw [ez] at hst
  rw [hn] at e0
  exact Rf.weak [(3, .int (nI 0)), (2, .int (nI n)), (0, .ref m), (1, .int (nI a))] ⟨rfl, congrArg (fun z => some (Value.int z)) e0, rfl, rfl, trivial⟩ hst
end Mw
