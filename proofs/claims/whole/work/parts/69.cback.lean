/-! CompassTowers.back -/
section Cb
variable {K : Ka} {d o o2 p h n k : Nat} {M : Me} {I : Nat → Nat → Int32} {J : Nat → Nat → Int64} {D : Nat → Nat → Nat} {kd : Nat → Nat} {tl : Nat → Nat → Int32} {V : Nat → Nat → Nat → Nat} {g : Nat → Nat}
theorem TwA.down [NeZero p] {T h' : Nat} {I1 : Nat → Nat → Int32} (hA : TwA I T p h D) (hh : h' ≤ h) (h1 : I1 T 1 = nI h') (h0 : ∀ q, q ≠ 1 → I1 T q = I T q) (hf : ∀ a, T < a → a < T + 6 → I1 a = I a) : TwA I1 T p h' D := by
  obtain ⟨⟨a1, a2, a3, a4, a5⟩, ⟨t, c, g, b1, b2, b3, b4⟩, c1, d1, e1⟩ := hA
  refine ⟨⟨(h0 0 (by decide)).trans a1, h1, by omega, a4, fun i j hi hj hc m hm => ?_⟩, ⟨t, c, g, (h0 10 (by decide)).trans b1, (h0 11 (by decide)).trans b2, (h0 12 (by decide)).trans b3, b4⟩, fun i hi => (c1 i (by omega)).keep (hf _ (by omega) (by omega)), d1.le hh, e1⟩
  rw [hf _ (by omega) (by omega)]
  exact a5 i j hi hj (hc.imp id (fun q => by omega)) m hm
theorem hsm_le {g : Nat → Nat} : ∀ {s n : Nat}, s ≤ n → hsm g s ≤ hsm g n := by
  intro s n
  induction n with
  | zero => intro h; rw [show s = 0 by omega]; exact Nat.le_refl _
  | succ n ih =>
    intro h
    by_cases e : s = n + 1
    · rw [e]; exact Nat.le_refl _
    · exact Nat.le_trans (ih (by omega)) (Nat.le_add_right _ _)
theorem AS.down [NeZero p] (hA : AS p D h (n + 1) kd tl V g) : AS p D (hsm g n) n kd tl V g := by
  obtain ⟨a1, a2, a3, a4, a5, a6⟩ := hA
  have : hsm g n ≤ h := by rw [a4]; exact hsm_le (by omega)
  exact ⟨fun t ht => a1 t (by omega), fun t ht => a2 t (by omega), fun t ht => a3 t (by omega), rfl, fun t ht => a5 t (by omega), fun i hi => a6 i (by omega)⟩
theorem c_back [NeZero p] {d' : Nat} {post : Option Value → Me → Prop} (hM : CtM M o o2) (hR : CR I o p D h n kd tl V g) (hA : AS p D h n kd tl V g) (hd : d + 3 ≤ d') (c0 : n = 0 → post (some (.int (Int32.ofInt (-7)))) (St M I J)) (c1 : ∀ n1, n = n1 + 1 → ∀ I1 J1, CR I1 o p D (hsm g n1) n1 kd tl V g → FrK I I1 → I1 8 = I 8 → (∀ q, o2 ≤ q → q < o2 + 219 → I1 q = I q) → post (some (.int (nI n1))) (St M I1 J1)) : Ok K d' 76 [.ref 8] (St M I J) post := by
  refine Ok.up (d := d + 3) (post := post) ?_ hd (fun _ _ h => h)
  obtain ⟨hC, ⟨r0, r1, r2, r3⟩, hS, hH, hH2, hoo⟩ := hM
  obtain ⟨⟨s1, s2, s3⟩, hTw, hv, hg⟩ := hR
  refine Ok.go (e := me_76) rfl rfl (Nat.le_of_ble_eq_true rfl) hC ?_
  refine Rf.go 200 [] ?_
  refine And.intro hC ⟨9, r0, ?_⟩
  refine And.intro hS.1 ?_
  refine And.intro (fun q => ?_) (fun q => ?_)
  · have q : (0 : Int32) < I 9 0 := of_decide_eq_true q
    rw [s1] at q
    have hn0 : 0 < n := (nI_ltI (a := 0) (by decide) (by omega)).mp q
    obtain ⟨n1, rfl⟩ : ∃ n1, n = n1 + 1 := ⟨n - 1, by omega⟩
    have h3 := hTw.1.2.2.1
    have eh : h = hsm g n1 + g n1 := hA.2.2.2.1
    have e9 : I 9 0 - Int32.ofInt 1 = nI n1 := by rw [s1]; exact nI_pred n1
    refine And.intro hC ⟨9, r0, ?_⟩
    refine And.intro rfl ?_
    refine And.intro hS.1 ?_
    refine And.intro hS.1 ?_
    refine And.intro hC ⟨o, r2, ?_⟩
    refine And.intro hC ⟨9, r0, ?_⟩
    refine And.intro hS.1 ?_
    have u9 : ∀ q, q ≠ 9 → u2 I 9 0 (I 9 0 - Int32.ofInt 1) q = I q := fun q hq => u2_ne hq
    have v9 : u2 I 9 0 (I 9 0 - Int32.ofInt 1) 9 0 = nI n1 := by rw [u2_at, if_pos rfl, e9]
    refine (h_unmake (d := d) (I := u2 I 9 0 (I 9 0 - Int32.ofInt 1)) (J := J) (t := n1) (g := g n1) (h := h) hH (by omega) v9 (by rw [u9 _ (by omega)]; exact hTw.1.2.1) (by rw [u9 _ (by omega)]; exact hg n1 (by omega)) (by omega) h3).up (by omega) ?_
    rintro r M1 ⟨rfl, rfl⟩
    have w9 : u2 (u2 I 9 0 (I 9 0 - Int32.ofInt 1)) (o + 1) 1 (nI (h - g n1)) 9 0 = nI n1 := by rw [u2_ne (by omega)]; exact v9
    have un : ∀ q, q ≠ o + 1 → q ≠ 9 → u2 (u2 I 9 0 (I 9 0 - Int32.ofInt 1)) (o + 1) 1 (nI (h - g n1)) q = I q := fun q h1 h2 => by rw [u2_ne h1, u9 q h2]
    refine And.intro hC ⟨9, r0, ?_⟩
    refine And.intro hS.1 ?_
    have hfin := c1 n1 rfl (u2 (u2 I 9 0 (I 9 0 - Int32.ofInt 1)) (o + 1) 1 (nI (h - g n1))) J ⟨⟨w9, by omega, fun t ht => ?_⟩, hTw.down (h' := hsm g n1) (by omega) (by rw [u2_at, if_pos rfl]; congr 1; omega) (fun q hq => by rw [u2_at, if_neg hq, u9 _ (by omega)]) (fun q h1 h2 => un q (by omega) (by omega)), fun s hs i hi => ⟨fun j hj => ?_, ?_⟩, fun t ht => ?_⟩ (fun q hq => un q (by omega) (by omega)) (un 8 (by omega) (by decide)) (fun q h1 h2 => un q (by omega) (by omega))
    · rw [← w9] at hfin
      exact ⟨rfl, hfin⟩
    · rw [un 10 (by omega) (by decide), un 11 (by omega) (by decide)]
      exact s3 t (by omega)
    · rw [un _ (by omega) (by omega)]
      exact (hv s (by omega) i hi).1 j hj
    · exact (hA.2.2.2.2.1 s (by omega) i).up (hsm_le (by omega))
    · rw [un _ (by omega) (by omega)]
      exact hg t (by omega)
  · have q : ¬ (0 : Int32) < I 9 0 := fun w => q (decide_eq_true w)
    rw [s1] at q
    have hn0 : n = 0 := by
      apply Classical.byContradiction
      intro w
      exact q (nI_lt (a := 0) (by omega) (by omega))
    exact ⟨rfl, c0 hn0⟩
end Cb
