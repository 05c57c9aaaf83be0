/-! The model's rooted, rebuild -/
section Mb
variable {K : Ka} {d m p h r a b k : Nat} {M : Me} {I : Nat → Nat → Int32} {J : Nat → Nat → Int64} {D E : Nat → Nat → Nat} {G : Nat → Nat → Int32} {f g : Nat → Int32}
/-- what growth leaves as it is, of the model's numbers -/
def FrG (I I1 : Nat → Nat → Int32) (m : Nat) : Prop := (∀ c, c ≠ m → c ≠ m + 8 → c ≠ m + 9 → c ≠ m + 10 → I1 c = I c) ∧ ∀ q, q ≠ 1 → q ≠ 17 → I1 m q = I m q
theorem FrG.refl : FrG I I m := ⟨fun _ _ _ _ _ => rfl, fun _ _ _ => rfl⟩
noncomputable def gW (p : Nat) [NeZero p] (D : Nat → Nat → Nat) (h : Nat) (X : TR p D h) (x : Int32) : Int32 := @ite _ (@Sq (TR p D h) (TI p D h) X) (Classical.propDecidable _) x (Int32.ofInt 1)
set_option maxHeartbeats 2000000 in
theorem m_rooted [NeZero p] {d' : Nat} {z1 z2 : Int32} {X : TR p D h} {post : Option Value → Me → Prop} (hM : MoM M m) (hA : MoA I m p h D) (hz1 : z1 = nI r) (hz2 : z2 = nI a) (hr : r < 64) (ha : a < 64) (fa : a < 14 ∨ 46 ≤ a) (hX : G a = vE p D h X) (hd : d + 9 ≤ d') (hp : RtC p D h X → ∀ I1 G1 J1, MoA I1 m p (gH p D h X) (gB p D h X) → G1 r = vE p (gB p D h X) (gH p D h X) (oV p (gB p D h X) (gH p D h X) (rV p D h X)) → (∀ s, s ≠ r → (s < 14 ∨ 46 ≤ s) → G1 s = G s) → FrG I I1 m → I1 m 17 = gW p D h X (I m 17) → post (some (.int (Int32.ofInt 0))) (St M (rg I1 m G1) J1)) (hn : ¬ RtC p D h X → ∀ G1 J1, (∀ s, s ≠ r → (s < 14 ∨ 46 ≤ s) → G1 s = G s) → post (some (.int (Int32.ofInt (-5)))) (St M (rg I m G1) J1)) : Ok K d' 129 [.ref m, .int z1, .int z2] (St M (rg I m G) J) post := by
  refine Ok.up (d := d + 9) (post := post) ?_ hd (fun _ _ h => h)
  subst hz1 hz2
  have hI := hA.1
  have hpb := hI.2.2.2.1
  have hh3 := hI.2.2.1
  have eh : ∀ G1, rg I m G1 m 1 = nI h := fun G1 => by rw [rg_m]; exact hI.2.1
  refine Ok.go (e := me_129) rfl rfl (Nat.le_of_ble_eq_true rfl) hM.c ?_
  refine Rf.go 100 [] ?_
  refine And.intro hM.c ?_
  refine m_isSq (d := d) (k := h) (a := a) hM hA rfl (eh G) ha (by omega) (Nat.le_refl h) hX (by omega) (fun hs G1 J1 f1 => ?_) (fun hs G1 J1 f1 => ?_)
  · refine And.intro (fun hc => absurd hc (by decide)) (fun _ => ?_)
    refine m_root (d := d) (r := r) (a := a) (X := X) hM hA rfl rfl hr ha (by omega) ((f1 a (by omega)).trans hX) hs (by omega) (fun G2 J2 q2 f2 => ?_)
    have e1 : gB p D h X = D := if_pos hs
    have e2 : gH p D h X = h := if_pos hs
    have e3 : rV p D h X = tV p D h (rtE p D h X) := if_pos hs
    refine ⟨rfl, hp (Or.inl hs) I G2 J2 ?_ ?_ (fun s h1 h2 => (f2 s h1 (by omega) (by omega) (by omega)).trans (f1 s (by omega))) FrG.refl (if_pos hs).symm⟩
    · rw [e1, e2]; exact hA
    · rw [e1, e2, e3, oV_tV]; exact q2
  · refine And.intro (fun _ => ?_) (fun hc => absurd (by decide) hc)
    refine And.intro hM.c ?_
    refine And.intro (fun hc => ?_) (fun hc => ?_)
    · have hc : ¬ rg I m G1 m 1 = Int32.ofInt 3 := of_decide_eq_true hc
      rw [eh] at hc
      have hh : h < 3 := by
        have : h ≠ 3 := fun q => hc (by rw [q]; rfl)
        omega
      refine m_grow (d := d) (a := a) (X := X) hM hA hh rfl ha (by omega) ((f1 a (by omega)).trans hX) hs (by omega) (fun I2 G2 J2 hA2 f2 c2 m2 b2 => ?_)
      refine And.intro ⟨hM.c, Or.inr rfl⟩ ?_
      refine And.intro hM.c ?_
      have e1 : gB p D h X = gD D h (tV p D h X) := if_neg hs
      have e2 : gH p D h X = h + 1 := if_neg hs
      have e3 : rV p D h X = un (2 ^ h) := if_neg hs
      have ew : wI (St M (rg I2 m G2) J2) (u2 (mI (St M (rg I2 m G2) J2)) m 17 (Int32.ofInt 1)) = St M (rg (u2 I2 m 17 (Int32.ofInt 1)) m G2) J2 := by
        show St M (u2 (rg I2 m G2) m 17 (Int32.ofInt 1)) J2 = _
        rw [rg_u2 (by omega)]
      have eh2 : rg (u2 I2 m 17 (Int32.ofInt 1)) m G2 m 1 = nI (h + 1) := by rw [rg_m, u2_at, if_neg (by decide)]; exact hA2.1.2.1
      have hA3 : MoA (u2 I2 m 17 (Int32.ofInt 1)) m p (h + 1) (gD D h (tV p D h X)) := hA2.keep (by rw [u2_at, if_neg (by decide)]) (by rw [u2_at, if_neg (by decide)]) (u2_ne (by omega)) (u2_ne (by omega))
      have q := x_unit (K := K) (d := d) (d' := d + 8) (J := J2) (G := G2) (I := u2 I2 m 17 (Int32.ofInt 1)) (p := p) (D := gD D h (tV p D h X)) (h := h + 1) (k := h) (r := r) (z1 := nI r) (z2 := u2 (rg I2 m G2) m 17 (Int32.ofInt 1) m 1) (post := fun r9 M9 => rok me_129.2.2.2.1 (some (.int (Int32.ofInt 0))) = true ∧ post (some (.int (Int32.ofInt 0))) M9 ∧ r9 = none) hM rfl (by rw [rg_u2 (by omega)]; exact eh2) hr (by omega) (by omega) (by omega) (by omega) (fun G3 J3 q3 f3 => ?_)
      · rw [← ew] at q
        refine q.up (Nat.le_refl _) ?_
        rintro r9 M9 ⟨q1, q2, rfl⟩
        exact ⟨q1, q2⟩
      · refine ⟨rfl, hp (Or.inr hh) (u2 I2 m 17 (Int32.ofInt 1)) G3 J3 ?_ ?_ (fun s h1 h2 => (f3 s h1).trans ((f2 s (by omega)).trans (f1 s (by omega)))) ⟨fun c h1 h2 h3 h4 => (u2_ne h1).trans (c2 c h1 h2 h3 h4), fun q h1 h2 => by rw [u2_at, if_neg h2]; exact m2 q h1⟩ ?_, rfl⟩
        · rw [e1, e2]; exact hA3
        · rw [e1, e2, e3]; exact q3
        · rw [u2_at, if_pos rfl]
          exact (if_neg hs).symm
    · have hc : rg I m G1 m 1 = Int32.ofInt 3 := Classical.not_not.mp (fun q => hc (decide_eq_true q))
      rw [eh] at hc
      have h3 : h = 3 := (nI_eq (b := 3) (by omega) (by omega)).mp hc
      exact ⟨rfl, hn (fun q => q.elim hs (by omega)) G1 J1 (fun s h1 h2 => f1 s (by omega))⟩
theorem gD_self {D : Nat → Nat → Nat} {k : Nat} : gD D k (D k) = D := funext (fun i => by
  unfold gD
  split
  · next e => rw [e]
  · rfl)
theorem tb_0 [NeZero p] (hp : 2 ≤ p) (k : Nat) : tbF p D 0 0 0 k = if k = 0 then 1 else 0 := by
  unfold tbF
  have e : oV p D 0 (un 0) = ((TI p D 0).ofNat 1).ofNat := oV_one (p := p) (D := D) 0
  rw [e]
  exact (congrArg (fun z => tV p D 0 z k) ((TI p D 0).mul_one _)).trans (tV_one hp 0 k)
theorem ix344 {i : Nat} : Int32.ofInt 344 + nI i = nI (8 * 43 + i) := by rw [show Int32.ofInt 344 = nI 344 from rfl, nI_add]
set_option maxHeartbeats 4000000 in
theorem m_rebuild [NeZero p] {d' : Nat} {z1 : Int32} {post : Option Value → Me → Prop} (hM : MoM M m) (hp0 : I m 0 = nI p) (hpb : 3 ≤ p ∧ p ≤ 32749) (hpr : Pr p) (hodd : p % 2 = 1) (hz1 : z1 = nI h) (hh : h ≤ 3) (hD : tOk p D h) (hv : ∀ i, i < h → vOk p i (D i)) (hB : ∀ i, i < h → ∀ j, j < 8 → I (m + 8) (8 * i + j) = nI (D i j)) (hd : d + 3 ≤ d') (hp : ∀ I1 G1 J1, MoA I1 m p h D → (∀ s, (s < 40 ∨ 44 ≤ s) → G1 s = G s) → (∀ c, c ≠ m → c ≠ m + 8 → c ≠ m + 9 → c ≠ m + 10 → I1 c = I c) → (∀ q, q ≠ 1 → I1 m q = I m q) → post none (St M (rg I1 m G1) J1)) : Ok K d' 109 [.ref m, .int z1] (St M (rg I m G) J) post := by
  refine Ok.up (d := d + 3) (post := post) ?_ hd (fun _ _ h => h)
  subst hz1
  have hb9 := hM.a512 (a := m + 9) (by omega)
  refine Ok.go (e := me_109) rfl rfl (Nat.le_of_ble_eq_true rfl) hM.c ?_
  generalize hpost : (fun (r : Option Value) (M1 : Me) => rok me_109.2.2.2.1 r = true ∧ post r M1) = pst9
  -- the growing
  have gr : ∀ n k, k + n = h → ∀ (I1 : Nat → Nat → Int32) (G1 : Nat → Nat → Int32) (J1 : Nat → Nat → Int64), MoA I1 m p k D → (∀ s, (s < 40 ∨ 44 ≤ s) → G1 s = G s) → (∀ c, c ≠ m → c ≠ m + 8 → c ≠ m + 9 → c ≠ m + 10 → I1 c = I c) → (∀ q, q ≠ 1 → I1 m q = I m q) → (∀ q, 8 * k ≤ q → I1 (m + 8) q = I (m + 8) q) → Rf K (d + 2) mc_109 22 (lk [(2, .int (nI k)), (0, .ref m), (1, .int (nI h))]) [] (St M (rg I1 m G1) J1) pst9 := by
    intro n
    induction n with
    | zero =>
      intro k hk I1 G1 J1 hA hG hc hm hb
      obtain rfl : k = h := by omega
      refine Rf.go 100 [] ?_
      refine And.intro (fun _ => ?_) (fun q => absurd ((geN (by omega) (by omega)).mpr (Nat.le_refl _)) q)
      rw [← hpost]
      exact ⟨rfl, hp I1 G1 J1 hA hG hc hm⟩
    | succ n ih =>
      intro k hk I1 G1 J1 hA hG hc hm hb
      have hkh : k < h := by omega
      have ev : tV p D k (oV p D k (D k)) = D k := (hv k hkh).tv
      refine Rf.go 100 [27] ?_
      refine And.intro (fun q => absurd ((geN (by omega) (by omega)).mp q) (by omega)) (fun _ => ?_)
      refine Rf.weak [(3, .int (nI 0)), (2, .int (nI k)), (0, .ref m), (1, .int (nI h))] ⟨rfl, rfl, rfl, rfl, trivial⟩ ?_
      have inn : ∀ i, i ≤ 8 → Rf K (d + 2) mc_109 27 (lk [(3, .int (nI i)), (2, .int (nI k)), (0, .ref m), (1, .int (nI h))]) [] (St M (rg I1 m (gN G1 43 i (fun j => I1 (m + 8) (8 * k + j)))) J1) pst9 := by
        refine for_up 8 ?_ (fun i hi ihi => ?_)
        · refine Rf.go 100 [22] ?_
          refine And.intro (fun _ => ?_) (fun q => (ge8n q).elim)
          have e43 : rg I1 m (gN G1 43 8 (fun j => I1 (m + 8) (8 * k + j))) = rg I1 m (fu G1 43 (vE p D k (oV p D k (D k)))) := rg_8.trans (rg_fu (fun j hj => by
            rw [hb _ (by omega), hB k hkh j hj]
            unfold vE
            rw [ev]))
          rw [e43]
          refine m_grow (d := d) (a := 43) (X := oV p D k (D k)) hM hA (by omega) rfl (by decide) (by decide) fu_eq (hD k hkh) (by omega) (fun I2 G2 J2 hA2 f2 c2 m2 b2 => ?_)
          rw [ev, gD_self] at hA2
          refine Rf.weak [(2, .int (nI (k + 1))), (0, .ref m), (1, .int (nI h))] ⟨inc1 k, rfl, rfl, trivial⟩ ?_
          exact ih (k + 1) (by omega) I2 G2 J2 hA2 (fun s hs => (f2 s (by omega)).trans ((fu_ne (by omega)).trans (hG s hs))) (fun c q1 q2 q3 q4 => (c2 c q1 q2 q3 q4).trans (hc c q1 q2 q3 q4)) (fun q hq => (m2 q hq).trans (hm q hq)) (fun q hq => (b2 q (by omega)).trans (hb q (by omega)))
        · refine Rf.go 100 [27] ?_
          refine And.intro (fun q => (ge8 hi q).elim) (fun _ => ?_)
          refine And.intro hM.c ⟨m + 11, hM.r14, ?_⟩
          refine And.intro hM.c ⟨m + 8, hM.r11, ?_⟩
          refine Or.inr (And.intro ⟨hM.ab.1, ?_⟩ ?_)
          · show inb (Int32.ofInt 8 * nI k + nI i) (mH M (m + 8)).2 = true
            rw [ix8e, hM.ab.2]
            exact inb_n (by omega) (by omega)
          refine And.intro ⟨hM.rcg, ?_⟩ ?_
          · show inb (Int32.ofInt 344 + nI i) (mH M (m + 11)).2 = true
            rw [ix344, (hM.a512 (a := m + 11) (by omega)).2]
            exact inb_n (by omega) (by omega)
          have e : u2 (rg I1 m (gN G1 43 i (fun j => I1 (m + 8) (8 * k + j)))) (m + 11) (Int32.ofInt 344 + nI i).toNatClampNeg (rg I1 m (gN G1 43 i (fun j => I1 (m + 8) (8 * k + j))) (m + 8) (Int32.ofInt 8 * nI k + nI i).toNatClampNeg) = rg I1 m (gN G1 43 (i + 1) (fun j => I1 (m + 8) (8 * k + j))) := by
            rw [ix344, nI_clamp (by omega), rg_ne (by omega), ix8 (by omega) hi, rg_put hi, gN_step rfl]
          rw [← e] at ihi
          exact Rf.weak [(3, .int (nI (i + 1))), (2, .int (nI k)), (0, .ref m), (1, .int (nI h))] ⟨inc1 i, rfl, rfl, rfl, trivial⟩ ihi
      have := inn 0 (Nat.zero_le _)
      rw [gN_0] at this
      exact this
  -- the table emptied
  have zr : ∀ i, i ≤ 512 → ∀ f : Nat → Int32, (∀ q, q < i → f q = Int32.ofInt 0) → Rf K (d + 2) mc_109 2 (lk [(2, .int (nI i)), (0, .ref m), (1, .int (nI h))]) [] (St M (rg (s9 I m f (I (m + 10))) m G) J) pst9 := by
    refine for_up 512 (fun f hf => ?_) (fun i hi ih f hf => ?_)
    · refine Rf.go 100 [22] ?_
      refine And.intro (fun _ => ?_) (fun q => absurd (by decide) q)
      refine And.intro hM.c ⟨m + 9, hM.r12, ?_⟩
      refine And.intro ⟨hb9.1, by show inb (Int32.ofInt 0) (mH M (m + 9)).2 = true; rw [hb9.2]; decide⟩ ?_
      refine And.intro hM.c ?_
      have e : u2 (u2 (rg (s9 I m f (I (m + 10))) m G) (m + 9) (Int32.ofInt 0).toNatClampNeg (Int32.ofInt 1)) m 1 (Int32.ofInt 0) = rg (u2 (s9 I m (va_up f 0 (Int32.ofInt 1)) (I (m + 10))) m 1 (Int32.ofInt 0)) m G := by
        rw [show (Int32.ofInt 0).toNatClampNeg = 0 from rfl, rg_u2 (by omega), s9_u9, rg_u2 (by omega)]
      have un_ : ∀ c, c ≠ m → u2 (s9 I m (va_up f 0 (Int32.ofInt 1)) (I (m + 10))) m 1 (Int32.ofInt 0) c = s9 I m (va_up f 0 (Int32.ofInt 1)) (I (m + 10)) c := fun c hc => u2_ne hc
      have st := gr h 0 (by omega) (u2 (s9 I m (va_up f 0 (Int32.ofInt 1)) (I (m + 10))) m 1 (Int32.ofInt 0)) G J ⟨⟨?_, ?_, by omega, hpb, fun i j k hi hj hk => ?_⟩, fun i hi => absurd hi (Nat.not_lt_zero i), fun i hi => absurd hi (Nat.not_lt_zero i), hpr, hodd⟩ (fun _ _ => rfl) (fun c q1 q2 q3 q4 => by rw [un_ c q1, s9_ne q3 q4]) (fun q hq => by rw [u2_at, if_neg hq, s9_ne (by omega) (by omega)]) (fun q _ => by rw [un_ _ (by omega), s9_ne (by omega) (by omega)])
      · rw [← e] at st
        exact Rf.weak [(2, .int (nI 0)), (0, .ref m), (1, .int (nI h))] ⟨rfl, rfl, rfl, trivial⟩ st
      · rw [u2_at, if_neg (by decide), s9_ne (by omega) (by omega)]; exact hp0
      · rw [u2_at, if_pos rfl]; rfl
      · rw [un_ _ (by omega), s9_9]
        have hi : i < 1 := hi
        have hj : j < 1 := hj
        obtain rfl : i = 0 := by omega
        obtain rfl : j = 0 := by omega
        rw [tb_0 (by omega), va_i]
        by_cases e : k = 0
        · subst e
          rfl
        · rw [if_neg (by omega), if_neg e]
          exact hf _ (by omega)
    · refine Rf.go 100 [2] ?_
      refine And.intro (fun q => absurd ((geN (n := 512) (by omega) (by decide)).mp q) (by omega)) (fun _ => ?_)
      refine And.intro hM.c ⟨m + 9, hM.r12, ?_⟩
      refine And.intro ⟨hb9.1, by show inb (nI i) (mH M (m + 9)).2 = true; rw [hb9.2]; exact inb_n (by omega) (by omega)⟩ ?_
      have e : u2 (rg (s9 I m f (I (m + 10))) m G) (m + 9) (nI i).toNatClampNeg (Int32.ofInt 0) = rg (s9 I m (va_up f i (Int32.ofInt 0)) (I (m + 10))) m G := by
        rw [nI_clamp (by omega), rg_u2 (by omega), s9_u9]
      have ih2 := ih (va_up f i (Int32.ofInt 0)) (fun q hq => by
        rw [va_i]
        by_cases e : q = i
        · rw [if_pos e]
        · rw [if_neg e]; exact hf q (by omega))
      rw [← e] at ih2
      exact Rf.weak [(2, .int (nI (i + 1))), (0, .ref m), (1, .int (nI h))] ⟨inc1 i, rfl, rfl, trivial⟩ ih2
  refine Rf.go 100 [2] ?_
  have st := zr 0 (Nat.zero_le _) (I (m + 9)) (fun q hq => absurd hq (Nat.not_lt_zero q))
  rw [s9_self] at st
  exact Rf.weak [(2, .int (nI 0)), (0, .ref m), (1, .int (nI h))] ⟨rfl, rfl, rfl, trivial⟩ st
end Mb
