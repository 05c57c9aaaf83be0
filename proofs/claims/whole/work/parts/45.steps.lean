/-! Steps -/
def srt (k : Nat) : Nat := [0, 0, 0, 0, 0, 0, 1, 2, 3, 3, 2, 2, 1, 0].getD k 0
def szs (s : Nat) : Nat := [1, 2, 3, 3].getD s 0
def tls (c : Nat) : Nat := [16, 0, 0, 1, 1, 0, 1, 1, 0, 1, 1, 0, 1, 1, 0, 1, 0, 0, 1, 1, 0, 2, 2, 0, 2, 2, 0, 2, 2, 2, 4, 2, 0, 4, 2, 0, 12, 12, 32, 14, 32, 0].getD c 0
def Kst (K : Ka) : Prop := Ksp K ∧ ((K 1).1 = 14 ∧ ∀ c, c < 14 → (K 1).2 c = nI (srt c)) ∧ ((K 2).1 = 4 ∧ ∀ c, c < 4 → (K 2).2 c = nI (szs c)) ∧ (K 3).1 = 42 ∧ ∀ c, c < 42 → (K 3).2 c = nI (tls c)
def StM (M : Me) (S : Nat) : Prop := isC M S 2 = true ∧ (mR M S 1 = some (S + 1) ∧ isC M (S + 1) 10 = true ∧ (mH M (S + 1)).2 = 60) ∧ mR M S 2 = some (S + 2) ∧ isC M (S + 2) 10 = true ∧ (mH M (S + 2)).2 = 180
theorem srt_lt : ∀ k, k < 14 → srt k < 4 := by decide
theorem szs_le : ∀ s, szs s ≤ 3 := by
  intro s
  rcases s with _ | _ | _ | _ | s <;> first | decide | exact Nat.zero_le 3
section Sp
variable {K : Ka} {d S n t i k : Nat} {M : Me} {I : Nat → Nat → Int32} {J : Nat → Nat → Int64} {z w : Int32}
theorem s_kindOf (hM : StM M S) (ht : t < 60) (hz : z = nI t) : Ok K (d + 1) 35 [.ref S, .int z] (St M I J) (fun r M1 => r = some (.int (I (S + 1) t)) ∧ M1 = St M I J) := by
  subst hz
  refine Ok.go (e := me_35) rfl rfl (Nat.le_of_ble_eq_true rfl) hM.1 ?_
  refine Rf.go 60 [] ?_
  refine And.intro (fun hb => absurd (of_decide_eq_true hb) (nI_pos (by omega))) (fun _ => ?_)
  refine And.intro (fun hb => absurd (of_decide_eq_true hb) (nI_ge (b := 60) ht (by decide))) (fun _ => ?_)
  refine And.intro hM.1 ⟨S + 1, hM.2.1.1, ?_⟩
  refine Or.inr (And.intro ⟨hM.2.1.2.1, by rw [show (mH (St M I J) (S + 1)).2 = 60 from hM.2.1.2.2]; exact inb_n ht (by omega)⟩ ?_)
  exact ⟨rfl, by show some (Value.int (I (S + 1) (nI t).toNatClampNeg)) = _; rw [nI_clamp (by omega)], rfl⟩
theorem s_toldOf (hM : StM M S) (ht : t < 60) (hi : i < 3) (hz : z = nI t) (hw : w = nI i) : Ok K (d + 1) 36 [.ref S, .int z, .int w] (St M I J) (fun r M1 => r = some (.int (I (S + 2) (3 * t + i))) ∧ M1 = St M I J) := by
  subst hz hw
  have e : Int32.ofInt 3 * nI t + nI i = nI (3 * t + i) := by rw [show Int32.ofInt 3 = nI 3 from rfl, pk_mul, nI_add]
  refine Ok.go (e := me_36) rfl rfl (Nat.le_of_ble_eq_true rfl) hM.1 ?_
  refine Rf.go 60 [] ?_
  refine And.intro (fun hb => absurd (of_decide_eq_true hb) (nI_pos (by omega))) (fun _ => ?_)
  refine And.intro (fun hb => absurd (of_decide_eq_true hb) (nI_ge (b := 60) ht (by decide))) (fun _ => ?_)
  refine And.intro (fun hb => absurd (of_decide_eq_true hb) (nI_pos (by omega))) (fun _ => ?_)
  refine And.intro (fun hb => absurd (of_decide_eq_true hb) (nI_ge (b := 3) hi (by decide))) (fun _ => ?_)
  refine And.intro hM.1 ⟨S + 2, hM.2.2.1, ?_⟩
  refine Or.inr (And.intro ⟨hM.2.2.2.1, ?_⟩ ?_)
  · show inb (Int32.ofInt 3 * nI t + nI i) (mH M (S + 2)).2 = true
    rw [e, hM.2.2.2.2]
    exact inb_n (by omega) (by omega)
  · refine ⟨rfl, ?_, rfl⟩
    show some (Value.int (I (S + 2) (Int32.ofInt 3 * nI t + nI i).toNatClampNeg)) = _
    rw [e, nI_clamp (by omega)]
/-- a thing that stands, or not -/
def hsb (n : Nat) (z : Int32) : Bool := decide (¬ z < 0 ∧ z < nI n)
theorem hsb_t {n : Nat} {z : Int32} (h : hsb n z = true) (hn : n ≤ 60) : ∃ t, t < n ∧ z = nI t := by
  have h := of_decide_eq_true h
  obtain ⟨j, hj, e⟩ := nI_of h.1
  exact ⟨j, (nI_ltI hj (by omega)).mp (by rw [← e]; exact h.2), e⟩
theorem hsb_i {n t : Nat} (h : t < n) (hn : n ≤ 60) : hsb n (nI t) = true := decide_eq_true ⟨nI_pos (by omega), nI_lt h (by omega)⟩
theorem s_has (hM : StM M S) (hn : I S 0 = nI n) : Ok K (d + 1) 34 [.ref S, .int z] (St M I J) (fun r M1 => r = some (.int (bI (hsb n z))) ∧ M1 = St M I J) := by
  refine Ok.go (e := me_34) rfl rfl (Nat.le_of_ble_eq_true rfl) hM.1 ?_
  refine Rf.go 60 [] ?_
  refine And.intro (fun hb => ?_) (fun hb => ?_)
  · have hb : z < 0 := of_decide_eq_true hb
    have e : hsb n z = false := decide_eq_false (fun q => q.1 hb)
    exact ⟨rfl, by rw [e]; rfl, rfl⟩
  · have hb : ¬ z < 0 := fun q => hb (decide_eq_true q)
    refine And.intro hM.1 ?_
    refine And.intro (fun hc => ?_) (fun hc => ?_)
    · have hc : I S 0 ≤ z := of_decide_eq_true hc
      rw [hn] at hc
      have e : hsb n z = false := decide_eq_false (fun q => absurd q.2 (Int32.not_lt.mpr hc))
      exact ⟨rfl, by rw [e]; rfl, rfl⟩
    · have hc : ¬ I S 0 ≤ z := fun q => hc (decide_eq_true q)
      rw [hn] at hc
      have e : hsb n z = true := decide_eq_true ⟨hb, Int32.not_le.mp hc⟩
      exact ⟨rfl, by rw [e]; rfl, rfl⟩
theorem s_sortOf (hK : Kst K) (hM : StM M S) (hn : I S 0 = nI n) (hn6 : n ≤ 60) (ht : t < n) (hk : I (S + 1) t = nI k) (hk14 : k < 14) (hz : z = nI t) : Ok K (d + 2) 37 [.ref S, .int z] (St M I J) (fun r M1 => r = some (.int (nI (srt k))) ∧ M1 = St M I J) := by
  subst hz
  refine Ok.go (e := me_37) rfl rfl (Nat.le_of_ble_eq_true rfl) hM.1 ?_
  refine Rf.go 60 [] ?_
  refine (s_has (d := d) hM hn).up (by omega) ?_
  rintro r M1 ⟨rfl, rfl⟩
  rw [hsb_i ht hn6]
  refine And.intro (fun hb => absurd hb (by decide)) (fun _ => ?_)
  refine And.intro hM.1 ⟨S + 1, hM.2.1.1, ?_⟩
  refine Or.inr (And.intro ⟨hM.2.1.2.1, by rw [show (mH (St M I J) (S + 1)).2 = 60 from hM.2.1.2.2]; exact inb_n (by omega) (by omega)⟩ ?_)
  have e : I (S + 1) (nI t).toNatClampNeg = nI k := by rw [nI_clamp (by omega)]; exact hk
  refine Or.inl (And.intro (by decide) (And.intro ?_ ?_))
  · show inb (I (S + 1) (nI t).toNatClampNeg) (K 1).1 = true
    rw [e, hK.2.1.1]
    exact inb_n hk14 (by omega)
  · refine ⟨rfl, ?_, rfl⟩
    show some (Value.int ((K 1).2 (I (S + 1) (nI t).toNatClampNeg).toNatClampNeg)) = _
    rw [e, nI_clamp (by omega), hK.2.1.2 k hk14]
theorem s_sortNo (hM : StM M S) (hn : I S 0 = nI n) (hz : hsb n z = false) : Ok K (d + 2) 37 [.ref S, .int z] (St M I J) (fun r M1 => r = some (.int (Int32.ofInt (-1))) ∧ M1 = St M I J) := by
  refine Ok.go (e := me_37) rfl rfl (Nat.le_of_ble_eq_true rfl) hM.1 ?_
  refine Rf.go 60 [] ?_
  refine (s_has (d := d) hM hn).up (by omega) ?_
  rintro r M1 ⟨rfl, rfl⟩
  rw [hz]
  refine And.intro (fun _ => ?_) (fun hb => absurd (by decide) hb)
  exact ⟨rfl, rfl, rfl⟩
theorem s_rowsOf (hK : Kst K) (hM : StM M S) (hn : I S 0 = nI n) (hn6 : n ≤ 60) (ht : t < n) (hk : I (S + 1) t = nI k) (hk14 : k < 14) (hz : z = nI t) : Ok K (d + 2) 38 [.ref S, .int z] (St M I J) (fun r M1 => r = some (.int (nI (szs (srt k)))) ∧ M1 = St M I J) := by
  subst hz
  refine Ok.go (e := me_38) rfl rfl (Nat.le_of_ble_eq_true rfl) hM.1 ?_
  refine Rf.go 60 [] ?_
  refine (s_has (d := d) hM hn).up (by omega) ?_
  rintro r M1 ⟨rfl, rfl⟩
  rw [hsb_i ht hn6]
  refine And.intro (fun hb => absurd hb (by decide)) (fun _ => ?_)
  refine And.intro hM.1 ⟨S + 1, hM.2.1.1, ?_⟩
  refine Or.inr (And.intro ⟨hM.2.1.2.1, by rw [show (mH (St M I J) (S + 1)).2 = 60 from hM.2.1.2.2]; exact inb_n (by omega) (by omega)⟩ ?_)
  have e : I (S + 1) (nI t).toNatClampNeg = nI k := by rw [nI_clamp (by omega)]; exact hk
  have e2 : (K 1).2 (I (S + 1) (nI t).toNatClampNeg).toNatClampNeg = nI (srt k) := by rw [e, nI_clamp (by omega), hK.2.1.2 k hk14]
  have hs := srt_lt k hk14
  refine Or.inl (And.intro (by decide) (And.intro ?_ ?_))
  · show inb (I (S + 1) (nI t).toNatClampNeg) (K 1).1 = true
    rw [e, hK.2.1.1]
    exact inb_n hk14 (by omega)
  refine Or.inl (And.intro (by decide) (And.intro ?_ ?_))
  · show inb ((K 1).2 (I (S + 1) (nI t).toNatClampNeg).toNatClampNeg) (K 2).1 = true
    rw [e2, hK.2.2.1.1]
    exact inb_n hs (by omega)
  · refine ⟨rfl, ?_, rfl⟩
    show some (Value.int ((K 2).2 ((K 1).2 (I (S + 1) (nI t).toNatClampNeg).toNatClampNeg).toNatClampNeg)) = _
    rw [e2, nI_clamp (by omega), hK.2.2.1.2 _ hs]
theorem s_rowsNo (hM : StM M S) (hn : I S 0 = nI n) (hz : hsb n z = false) : Ok K (d + 2) 38 [.ref S, .int z] (St M I J) (fun r M1 => r = some (.int (Int32.ofInt 0)) ∧ M1 = St M I J) := by
  refine Ok.go (e := me_38) rfl rfl (Nat.le_of_ble_eq_true rfl) hM.1 ?_
  refine Rf.go 60 [] ?_
  refine (s_has (d := d) hM hn).up (by omega) ?_
  rintro r M1 ⟨rfl, rfl⟩
  rw [hz]
  refine And.intro (fun _ => ?_) (fun hb => absurd (by decide) hb)
  exact ⟨rfl, rfl, rfl⟩
end Sp
