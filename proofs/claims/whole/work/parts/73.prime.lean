/-! Odd primes: CompassTowers.isOddPrime, the model's isPrime -/
def PrO (x : Int32) : Prop := ∃ q, 3 ≤ q ∧ q ≤ 32749 ∧ x = nI q ∧ q % 2 = 1 ∧ Pr q
theorem pr_of {q : Nat} (h3 : 3 ≤ q) (ho : q % 2 = 1) (h : ∀ e, e % 2 = 1 → 3 ≤ e → e * e ≤ q → q % e ≠ 0) : Pr q := by
  have key : ∀ e, e ∣ q → 1 < e → e * e ≤ q → False := fun e he h1 h2 => by
    have hm : q % e = 0 := Nat.mod_eq_zero_of_dvd he
    have heo : e % 2 = 1 := by
      rcases Nat.mod_two_eq_zero_or_one e with w | w
      · have h4 : 2 ∣ q := Nat.dvd_trans (Nat.dvd_of_mod_eq_zero w) he
        have := Nat.mod_eq_zero_of_dvd h4
        omega
      · exact w
    exact h e heo (by omega) h2 hm
  refine ⟨by omega, fun e he => ?_⟩
  apply Classical.byContradiction
  intro hn
  have h1 : e ≠ 1 ∧ e ≠ q := ⟨fun w => hn (Or.inl w), fun w => hn (Or.inr w)⟩
  obtain ⟨f, hf⟩ := he
  have he0 : e ≠ 0 := fun w => by rw [w, Nat.zero_mul] at hf; omega
  have hf0 : f ≠ 0 := fun w => by rw [w, Nat.mul_zero] at hf; omega
  have hf1 : f ≠ 1 := fun w => by rw [w, Nat.mul_one] at hf; exact h1.2 hf.symm
  by_cases hle : e ≤ f
  · exact key e ⟨f, hf⟩ (by omega) (by rw [hf]; exact Nat.mul_le_mul_left e hle)
  · exact key f ⟨e, by rw [hf, Nat.mul_comm]⟩ (by omega) (by rw [hf]; exact Nat.mul_le_mul_right f (by omega))
theorem pr_no {q e : Nat} (hp : Pr q) (h1 : 3 ≤ e) (h2 : e * e ≤ q) : q % e ≠ 0 := fun w => by
  have he : e ∣ q := Nat.dvd_of_mod_eq_zero w
  have h4 : e * 3 ≤ e * e := Nat.mul_le_mul_left e h1
  rcases hp.2 e he with w | w <;> omega
section Pp
variable {K : Ka} {d : Nat} {N : Me} {x : Int32}
theorem rem_n {q e : Nat} (hq : q < 2 ^ 31) (he : 0 < e) (he2 : e < 2 ^ 31) : nI q - nI q / nI e * nI e = nI (q % e) := pk_rem hq he he2
set_option maxHeartbeats 1000000 in
theorem c_isPrime {d' : Nat} {post : Option Value → Me → Prop} (hd : d + 1 ≤ d') (c1 : ∀ q, 3 ≤ q → q ≤ 32749 → x = nI q → q % 2 = 1 → Pr q → post (some (.int (Int32.ofInt 1))) N) (c0 : ¬ PrO x → post (some (.int (Int32.ofInt 0))) N) : Ok K d' 92 [.int x] N post := by
  refine Ok.up (d := d + 1) (post := post) ?_ hd (fun _ _ h => h)
  refine Ok.go (e := me_92) rfl rfl (Nat.le_of_ble_eq_true rfl) rfl ?_
  refine Rf.go 100 [14] ?_
  refine And.intro (fun w => ?_) (fun w => ?_)
  · have w : x < Int32.ofInt 3 := of_decide_eq_true w
    refine ⟨rfl, c0 ?_⟩
    rintro ⟨q, h1, h2, rfl, -⟩
    exact nI_nlt (b := 3) h1 (by omega) w
  have w3 : ¬ x < Int32.ofInt 3 := fun v => w (decide_eq_true v)
  refine And.intro (fun w => ?_) (fun w => ?_)
  · have w : Int32.ofInt 32749 < x := of_decide_eq_true w
    refine ⟨rfl, c0 ?_⟩
    rintro ⟨q, h1, h2, rfl, -⟩
    exact nI_nlt (a := 32749) h2 (by decide) w
  have wh : ¬ Int32.ofInt 32749 < x := fun v => w (decide_eq_true v)
  have w0 : ¬ x < 0 := fun v => w3 (Int32.lt_of_lt_of_le v (by decide))
  obtain ⟨q, hq, rfl⟩ := nI_of w0
  have q3 : 3 ≤ q := by
    apply Classical.byContradiction
    intro v
    exact w3 (nI_lt (b := 3) (by omega) (by decide))
  have qh : q ≤ 32749 := by
    apply Classical.byContradiction
    intro v
    exact wh (nI_lt (a := 32749) (by omega) hq)
  have uq : ∀ q2, nI q = nI q2 → q2 ≤ 32749 → q = q2 := fun q2 e h => (nI_eq hq (by omega)).mp e
  have er : nI q - nI q / Int32.ofInt 2 * Int32.ofInt 2 = nI (q % 2) := rem_n (e := 2) hq (by decide) (by decide)
  refine And.intro (by decide) ?_
  refine And.intro (fun w => ?_) (fun w => ?_)
  · have w : ¬ nI q - nI q / Int32.ofInt 2 * Int32.ofInt 2 = 0 := of_decide_eq_true w
    rw [er] at w
    have ho : q % 2 = 1 := by
      have : q % 2 ≠ 0 := fun v => w (by rw [v]; rfl)
      omega
    have key : ∀ n e, e + n = q → e % 2 = 1 → 3 ≤ e → (∀ f, f % 2 = 1 → 3 ≤ f → f < e → q % f ≠ 0) → Rf K d mc_92 14 (lk [(1, .int (nI e)), (0, .int (nI q))]) [] N (fun r M1 => rok me_92.2.2.2.1 r = true ∧ post r M1) := by
      intro n
      induction n using Nat.strongRecOn with
      | ind n ih =>
        intro e he eo e3 hf
        have hee : nI e * nI e = nI (e * e) := pk_mul e e
        have hsz : e * e < 2 ^ 31 := Nat.lt_of_le_of_lt (Nat.mul_le_mul (show e ≤ 32749 by omega) (show e ≤ 32749 by omega)) (by decide)
        have re : nI q - nI q / nI e * nI e = nI (q % e) := rem_n hq (by omega) (by omega)
        have hml : q % e < e := Nat.mod_lt _ (by omega)
        refine Rf.go 100 [14] ?_
        refine And.intro (fun v => ?_) (fun v => ?_)
        · have v : nI q < nI e * nI e := of_decide_eq_true v
          rw [hee] at v
          have v := (nI_ltI hq hsz).mp v
          refine ⟨rfl, c1 q q3 qh rfl ho (pr_of q3 ho (fun f fo f3 ff => ?_))⟩
          by_cases hfe : f < e
          · exact hf f fo f3 hfe
          · have := Nat.mul_le_mul (show e ≤ f by omega) (show e ≤ f by omega)
            omega
        · have v : ¬ nI q < nI e * nI e := fun u => v (decide_eq_true u)
          rw [hee] at v
          have v : e * e ≤ q := by
            apply Classical.byContradiction
            intro u
            exact v (nI_lt (by omega) hsz)
          have v2 : e * 3 ≤ e * e := Nat.mul_le_mul_left e e3
          refine And.intro (nI_ne0 (by omega) (by omega)) ?_
          refine And.intro (fun u => ?_) (fun u => ?_)
          · have u : ¬ nI q - nI q / nI e * nI e = 0 := of_decide_eq_true u
            rw [re] at u
            have u : q % e ≠ 0 := fun y => u (by rw [y]; rfl)
            refine Rf.weak [(1, .int (nI (e + 2))), (0, .int (nI q))] ⟨congrArg (fun z => some (Value.int z)) (nI_add e 2), rfl, trivial⟩ (ih (n - 2) (by omega) (e + 2) (by omega) (by omega) (by omega) (fun f fo f3 fe => ?_))
            by_cases hfe : f < e
            · exact hf f fo f3 hfe
            · have : f = e := by omega
              rw [this]
              exact u
          · have u : nI q - nI q / nI e * nI e = 0 := Classical.not_not.mp (fun y => u (decide_eq_true y))
            rw [re] at u
            have u : q % e = 0 := (nI_eq (b := 0) (by omega) (by omega)).mp u
            refine ⟨rfl, c0 ?_⟩
            rintro ⟨q2, h1, h2, h4, h5, h6⟩
            have := uq q2 h4 h2
            subst this
            exact pr_no h6 e3 v u
    refine Rf.weak [(1, .int (nI 3)), (0, .int (nI q))] ⟨rfl, rfl, trivial⟩ (key (q - 3) 3 (by omega) (by decide) (by decide) (fun f fo f3 fe => by omega))
  · have w : nI q - nI q / Int32.ofInt 2 * Int32.ofInt 2 = 0 := Classical.not_not.mp (fun v => w (decide_eq_true v))
    rw [er] at w
    have ho : q % 2 = 0 := (nI_eq (b := 0) (by omega) (by omega)).mp w
    refine ⟨rfl, c0 ?_⟩
    rintro ⟨q2, h1, h2, h4, h5, h6⟩
    have := uq q2 h4 h2
    omega
set_option maxHeartbeats 1000000 in
theorem m_isPrime {d' q : Nat} {post : Option Value → Me → Prop} (hx : x = nI q) (q3 : 3 ≤ q) (qh : q ≤ 32749) (hd : d + 1 ≤ d') (c1 : q % 2 = 1 → Pr q → post (some (.int (Int32.ofInt 1))) N) (c0 : ¬ (q % 2 = 1 ∧ Pr q) → post (some (.int (Int32.ofInt 0))) N) : Ok K d' 141 [.int x] N post := by
  refine Ok.up (d := d + 1) (post := post) ?_ hd (fun _ _ h => h)
  subst hx
  have hq : q < 2 ^ 31 := by omega
  have er : nI q - nI q / Int32.ofInt 2 * Int32.ofInt 2 = nI (q % 2) := rem_n (e := 2) hq (by decide) (by decide)
  refine Ok.go (e := me_141) rfl rfl (Nat.le_of_ble_eq_true rfl) rfl ?_
  have off : ∀ e, e < 2 ^ 31 → ¬ (q % 2 = 1 ∧ Pr q) → Rf K d mc_141 14 (lk [(2, .int (nI e)), (1, .int (Int32.ofInt 0)), (0, .int (nI q))]) [] N (fun r M1 => rok me_141.2.2.2.1 r = true ∧ post r M1) := by
    intro e _ hn
    refine Rf.go 100 [14] ?_
    refine And.intro (fun v => ⟨rfl, c0 hn⟩) (fun v => ?_)
    exact And.intro (fun _ => ⟨rfl, c0 hn⟩) (fun u => absurd (by decide) u)
  have key : ∀ n e, e + n = q → q % 2 = 1 → e % 2 = 1 → 3 ≤ e → (∀ f, f % 2 = 1 → 3 ≤ f → f < e → q % f ≠ 0) → Rf K d mc_141 14 (lk [(2, .int (nI e)), (1, .int (Int32.ofInt 1)), (0, .int (nI q))]) [] N (fun r M1 => rok me_141.2.2.2.1 r = true ∧ post r M1) := by
    intro n
    induction n using Nat.strongRecOn with
    | ind n ih =>
      intro e he ho eo e3 hf
      have hee : nI e * nI e = nI (e * e) := pk_mul e e
      have hsz : e * e < 2 ^ 31 := Nat.lt_of_le_of_lt (Nat.mul_le_mul (show e ≤ 32749 by omega) (show e ≤ 32749 by omega)) (by decide)
      have re : nI q - nI q / nI e * nI e = nI (q % e) := rem_n hq (by omega) (by omega)
      have hml : q % e < e := Nat.mod_lt _ (by omega)
      refine Rf.go 100 [14] ?_
      refine And.intro (fun v => ?_) (fun v => ?_)
      · have v : nI q < nI e * nI e := of_decide_eq_true v
        rw [hee] at v
        have v := (nI_ltI hq hsz).mp v
        refine ⟨rfl, c1 ho (pr_of q3 ho (fun f fo f3 ff => ?_))⟩
        by_cases hfe : f < e
        · exact hf f fo f3 hfe
        · have := Nat.mul_le_mul (show e ≤ f by omega) (show e ≤ f by omega)
          omega
      · have v : ¬ nI q < nI e * nI e := fun u => v (decide_eq_true u)
        rw [hee] at v
        have v : e * e ≤ q := by
          apply Classical.byContradiction
          intro u
          exact v (nI_lt (by omega) hsz)
        have v2 : e * 3 ≤ e * e := Nat.mul_le_mul_left e e3
        refine And.intro (fun u => absurd u (by decide)) (fun _ => ?_)
        refine And.intro (nI_ne0 (by omega) (by omega)) ?_
        refine And.intro (fun u => ?_) (fun u => ?_)
        · have u : nI q - nI q / nI e * nI e ≤ 0 := of_decide_eq_true u
          rw [re] at u
          have u : q % e = 0 := by
            apply Classical.byContradiction
            intro y
            exact nI_nle (by omega) (by omega) u
          refine Rf.weak [(2, .int (nI (e + 2))), (1, .int (Int32.ofInt 0)), (0, .int (nI q))] ⟨congrArg (fun z => some (Value.int z)) (nI_add e 2), rfl, rfl, trivial⟩ (off (e + 2) (by omega) (fun y => pr_no y.2 e3 v u))
        · have u : ¬ nI q - nI q / nI e * nI e ≤ 0 := fun y => u (decide_eq_true y)
          rw [re] at u
          have u : q % e ≠ 0 := fun y => u (by rw [y]; decide)
          refine Rf.weak [(2, .int (nI (e + 2))), (1, .int (Int32.ofInt 1)), (0, .int (nI q))] ⟨congrArg (fun z => some (Value.int z)) (nI_add e 2), rfl, rfl, trivial⟩ (ih (n - 2) (by omega) (e + 2) (by omega) ho (by omega) (by omega) (fun f fo f3 fe => ?_))
          by_cases hfe : f < e
          · exact hf f fo f3 hfe
          · have : f = e := by omega
            rw [this]
            exact u
  refine Rf.go 100 [14] ?_
  refine And.intro (fun w => absurd (of_decide_eq_true w) (nI_ge (a := 2) (by omega) hq)) (fun _ => ?_)
  refine And.intro (by decide) ?_
  refine And.intro (fun w => ?_) (fun w => ?_)
  · have w : ¬ nI q - nI q / Int32.ofInt 2 * Int32.ofInt 2 = Int32.ofInt 1 := of_decide_eq_true w
    rw [er] at w
    exact Rf.weak [(2, .int (nI 3)), (1, .int (Int32.ofInt 0)), (0, .int (nI q))] ⟨rfl, rfl, rfl, trivial⟩ (off 3 (by decide) (fun v => w (by rw [v.1]; rfl)))
  · have w : nI q - nI q / Int32.ofInt 2 * Int32.ofInt 2 = Int32.ofInt 1 := Classical.not_not.mp (fun v => w (decide_eq_true v))
    rw [er] at w
    have ho : q % 2 = 1 := (nI_eq (b := 1) (by omega) (by omega)).mp w
    exact Rf.weak [(2, .int (nI 3)), (1, .int (Int32.ofInt 1)), (0, .int (nI q))] ⟨rfl, rfl, rfl, trivial⟩ (key (q - 3) 3 (by omega) ho (by decide) (by decide) (fun f fo f3 fe => by omega))
end Pp
