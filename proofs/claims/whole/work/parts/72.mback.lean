/-! The model's back -/
section Mk
variable {K : Ka} {d m p h n k : Nat} {M : Me} {I : Nat → Nat → Int32} {J : Nat → Nat → Int64} {D : Nat → Nat → Nat} {kd : Nat → Nat} {tl : Nat → Nat → Int32} {V : Nat → Nat → Nat → Nat} {g : Nat → Nat} {G : Nat → Nat → Int32}
theorem MoA.base [NeZero p] (hA : MoA I m p h D) (hv : ∀ i, i < h → vOk p i (D i)) : ∀ i, i < h → ∀ j, j < 8 → I (m + 8) (8 * i + j) = nI (D i j) := fun i hi j hj => by
  rw [hA.2.1 i hi j hj, (hv i hi).tv]
theorem MR.of [NeZero p] {I1 : Nat → Nat → Int32} {h' n1 : Nat} (hR : MR I m p D h n kd tl V g) (hn : n1 ≤ n) (hA : MoA I1 m p h' D) (h3 : I1 m 3 = nI n1) (hc : ∀ q, m + 1 ≤ q → q ≤ m + 7 → I1 q = I q) (hv : ∀ t, t < n1 → ∀ i, vOk p h' (V t i)) : MR I1 m p D h' n1 kd tl V g := by
  obtain ⟨mA, ⟨t1, t2, t3'⟩, mS, mV, mB⟩ := hR
  refine ⟨hA, ⟨h3, by omega, fun s hs => ?_⟩, fun t ht => ?_, fun s hs i hi => ⟨fun j hj => ?_, hv s hs i, (mV s (by omega) i hi).2.2⟩, fun q hq => ?_⟩
  · rw [hc _ (by omega) (by omega)]; exact t3' s (by omega)
  · rw [hc _ (by omega) (by omega), hc _ (by omega) (by omega), hc _ (by omega) (by omega), hc _ (by omega) (by omega), hc _ (by omega) (by omega)]
    exact mS t (by omega)
  · rw [hc _ (by omega) (by omega)]; exact (mV s (by omega) i hi).1 j hj
  · rw [hc _ (by omega) (by omega)]; exact mB q hq
set_option maxHeartbeats 2000000 in
theorem m_back' [NeZero p] {d' : Nat} {post : Option Value → Me → Prop} (hM : MoM M m) (hR : MR I m p D h n kd tl V g) (hA : AS p D h n kd tl V g) (hd : d + 4 ≤ d') (c0 : n = 0 → post (some (.int (Int32.ofInt (-7)))) (St M (rg I m G) J)) (c1 : ∀ n1, n = n1 + 1 → ∀ I1 J1, MR I1 m p D (hsm g n1) n1 kd tl V g → FrL I I1 m → post (some (.int (nI n1))) (St M I1 J1)) : Ok K d' 140 [.ref m] (St M (rg I m G) J) post := by
  refine Ok.up (d := d + 4) (post := post) ?_ hd (fun _ _ h => h)
  have hR0 := hR
  obtain ⟨mA, ⟨t1, t2, t3'⟩, mS, mV, mB⟩ := hR
  have r3 : rg I m G m 3 = nI n := by rw [rg_m]; exact t1
  refine Ok.go (e := me_140) rfl rfl (Nat.le_of_ble_eq_true rfl) hM.c ?_
  refine Rf.go 100 [11] ?_
  refine And.intro hM.c ?_
  refine And.intro (fun q => ?_) (fun q => ?_)
  · have q : ¬ rg I m G m 3 = 0 := of_decide_eq_true q
    rw [r3] at q
    have hn0 : n ≠ 0 := fun w => q (by rw [w]; rfl)
    obtain ⟨n1, rfl⟩ : ∃ n1, n = n1 + 1 := ⟨n - 1, by omega⟩
    have eh : h = hsm g n1 + g n1 := hA.2.2.2.1
    have hg1 := hA.2.2.1 n1 (by omega)
    have hvv : ∀ t, t < n1 → ∀ i, vOk p (hsm g n1) (V t i) := fun t ht i => (hA.2.2.2.2.1 t (by omega) i).up (hsm_le (by omega))
    have c1 := c1 n1 rfl
    refine And.intro rfl ?_
    refine And.intro hM.c ?_
    refine And.intro hM.c ?_
    refine Rf.put ?_
    have x3 : u2 I m 3 (rg I m G m 3 - Int32.ofInt 1) m 3 = nI n1 := by rw [u2_at, if_pos rfl, r3]; exact nI_pred n1
    have xm : ∀ q, q ≠ 3 → u2 I m 3 (rg I m G m 3 - Int32.ofInt 1) m q = I m q := fun q hq => by rw [u2_at, if_neg hq]
    have xn : ∀ q, q ≠ m → u2 I m 3 (rg I m G m 3 - Int32.ofInt 1) q = I q := fun q hq => u2_ne hq
    show Rf K (d + 3) mc_140 11 _ [] (St M (rg (u2 I m 3 (rg I m G m 3 - Int32.ofInt 1)) m G) J) _
    generalize u2 I m 3 (rg I m G m 3 - Int32.ofInt 1) = I1 at x3 xm xn
    have rx3 : rg I1 m G m 3 = nI n1 := by rw [rg_m]; exact x3
    have hA1 : MoA I1 m p h D := mA.keep (xm 0 (by decide)) (xm 1 (by decide)) (xn _ (by omega)) (xn _ (by omega))
    refine Rf.go 100 [] ?_
    refine And.intro hM.c ⟨m + 6, hM.r9, ?_⟩
    refine And.intro hM.c ?_
    refine And.intro ⟨hM.ag.1, by show inb (rg I1 m G m 3) (mH M (m + 6)).2 = true; rw [rx3, hM.ag.2]; exact inb_n (by omega) (by omega)⟩ ?_
    have eg : rg I1 m G (m + 6) (rg I1 m G m 3).toNatClampNeg = nI (g n1) := by
      rw [rx3, nI_clamp (by omega), rg_ne (by omega), xn _ (by omega)]
      exact (mS n1 (by omega)).2.2.2.2
    refine And.intro (fun q => ?_) (fun q => ?_)
    · have q : rg I1 m G (m + 6) (rg I1 m G m 3).toNatClampNeg = 0 := of_decide_eq_true q
      rw [eg] at q
      have q : g n1 = 0 := (nI_eq (b := 0) (by omega) (by omega)).mp q
      have ehh : h = hsm g n1 := by omega
      refine And.intro hM.c ?_
      have hfin := c1 (rg I1 m G) J (hR0.of (by omega) (by rw [← ehh]; exact hA1.rg) rx3 (fun q h1 h2 => (rg_ne (by omega)).trans (xn q (by omega))) hvv) ⟨fun q hq => (rg_ne (by omega)).trans (xn q (by omega)), by rw [rg_m]; exact xm 2 (by decide), by rw [rg_m]; exact xm 21 (by decide)⟩
      rw [← rx3] at hfin
      exact ⟨rfl, hfin⟩
    · have q : ¬ rg I1 m G (m + 6) (rg I1 m G m 3).toNatClampNeg = 0 := fun w => q (decide_eq_true w)
      rw [eg] at q
      have q : g n1 = 1 := by
        have : g n1 ≠ 0 := fun w => q (by rw [w]; rfl)
        omega
      have ehh : h = hsm g n1 + 1 := by omega
      refine And.intro hM.c ?_
      have h3 := mA.1.2.2.1
      have e1 : rg I1 m G m 1 - Int32.ofInt 1 = nI (hsm g n1) := by
        rw [rg_m, xm 1 (by decide), mA.1.2.1, ehh]
        exact nI_pred _
      refine m_rebuild (d := d) (p := p) (D := D) (h := hsm g n1) hM (by rw [xm 0 (by decide)]; exact mA.1.1) mA.1.2.2.2.1 mA.2.2.2.1 mA.2.2.2.2 e1 (by omega) (mA.2.2.1.le (by omega)) (fun i hi => hA.2.2.2.2.2 i (by omega)) (fun i hi j hj => by rw [xn _ (by omega)]; exact mA.base hA.2.2.2.2.2 i (by omega) j hj) (by omega) (fun I2 G2 J2 hA2 f2 c2 m2 => ?_)
      have r23 : rg I2 m G2 m 3 = nI n1 := by rw [rg_m, m2 3 (by decide)]; exact x3
      refine And.intro hM.c ?_
      have hfin := c1 (rg I2 m G2) J2 (hR0.of (by omega) hA2.rg r23 (fun q h1 h2 => (rg_ne (by omega)).trans ((c2 q (by omega) (by omega) (by omega) (by omega)).trans (xn q (by omega)))) hvv) ⟨fun q hq => (rg_ne (by omega)).trans ((c2 q (by omega) (by omega) (by omega) (by omega)).trans (xn q (by omega))), by rw [rg_m, m2 2 (by decide)]; exact xm 2 (by decide), by rw [rg_m, m2 21 (by decide)]; exact xm 21 (by decide)⟩
      rw [← r23] at hfin
      exact ⟨rfl, hfin⟩
  · have q : rg I m G m 3 = 0 := Classical.not_not.mp (fun w => q (decide_eq_true w))
    rw [r3] at q
    have hn0 : n = 0 := (nI_eq (b := 0) (by omega) (by omega)).mp q
    exact ⟨rfl, c0 hn0⟩
theorem m_back [NeZero p] {d' : Nat} {post : Option Value → Me → Prop} (hM : MoM M m) (hR : MR I m p D h n kd tl V g) (hA : AS p D h n kd tl V g) (hd : d + 4 ≤ d') (c0 : n = 0 → post (some (.int (Int32.ofInt (-7)))) (St M I J)) (c1 : ∀ n1, n = n1 + 1 → ∀ I1 J1, MR I1 m p D (hsm g n1) n1 kd tl V g → FrL I I1 m → post (some (.int (nI n1))) (St M I1 J1)) : Ok K d' 140 [.ref m] (St M I J) post := by
  have q := m_back' (K := K) (d := d) (d' := d') (J := J) (post := post) (G := fun r j => I (m + 11) (8 * r + j)) hM hR hA hd (by rw [rg_self]; exact c0) c1
  rw [rg_self] at q
  exact q
end Mk
