/-! Integer.numberOfTrailingZeros as run; Tower.begin -/
def nz48 (n x : Int32) : Int32 := n + us x (Int32.ofInt 1)
def nz40 (n x : Int32) : Int32 := if x ≤ Int32.ofInt 4 then nz48 n x else nz48 (n + Int32.ofInt 2) (us x (Int32.ofInt 2))
def nz32 (n x : Int32) : Int32 := if x ≤ Int32.ofInt 16 then nz40 n x else nz40 (n + Int32.ofInt 4) (us x (Int32.ofInt 4))
def nz24 (n x : Int32) : Int32 := if x ≤ Int32.ofInt 256 then nz32 n x else nz32 (n + Int32.ofInt 8) (us x (Int32.ofInt 8))
theorem nz_F (x : Int32) : ntzF x = nz24 (Int32.ofInt 1) ((x ^^^ Int32.ofInt (-1)) &&& (x - Int32.ofInt 1)) := by
  unfold ntzF nz24 nz32 nz40 nz48
  generalize ((x ^^^ Int32.ofInt (-1)) &&& (x - Int32.ofInt 1)) = y
  dsimp only
  by_cases h1 : y ≤ Int32.ofInt 256
  · simp only [if_pos h1]
    by_cases h2 : y ≤ Int32.ofInt 16
    · simp only [if_pos h2]
      by_cases h3 : y ≤ Int32.ofInt 4
      · simp only [if_pos h3]
      · simp only [if_neg h3]
    · simp only [if_neg h2]
      by_cases h3 : us y (Int32.ofInt 4) ≤ Int32.ofInt 4
      · simp only [if_pos h3]
      · simp only [if_neg h3]
  · simp only [if_neg h1]
    generalize us y (Int32.ofInt 8) = y
    by_cases h2 : y ≤ Int32.ofInt 16
    · simp only [if_pos h2]
      by_cases h3 : y ≤ Int32.ofInt 4
      · simp only [if_pos h3]
      · simp only [if_neg h3]
    · simp only [if_neg h2]
      by_cases h3 : us y (Int32.ofInt 4) ≤ Int32.ofInt 4
      · simp only [if_pos h3]
      · simp only [if_neg h3]
section Nz
variable {K : Ka} {d : Nat} {M : Me}
theorem r_nz48 (n x : Int32) : Rf K d mc_164 48 (lk [(1, .int n), (0, .int x)]) [] M (fun r M1 => rok me_164.2.2.2.1 r = true ∧ r = some (.int (nz48 n x)) ∧ M1 = M) := by
  refine Rf.go 20 [] ?_
  exact ⟨rfl, rfl, rfl⟩
theorem r_nz40 (n x : Int32) : Rf K d mc_164 40 (lk [(1, .int n), (0, .int x)]) [] M (fun r M1 => rok me_164.2.2.2.1 r = true ∧ r = some (.int (nz40 n x)) ∧ M1 = M) := by
  refine Rf.go 20 [48] ?_
  refine And.intro (fun hb => ?_) (fun hb => ?_)
  · have e : nz40 n x = nz48 n x := if_pos (of_decide_eq_true hb)
    rw [e]
    exact Rf.weak [(1, .int n), (0, .int x)] ⟨rfl, rfl, trivial⟩ (r_nz48 n x)
  · have e : nz40 n x = nz48 (n + Int32.ofInt 2) (us x (Int32.ofInt 2)) := if_neg (fun q => hb (decide_eq_true q))
    rw [e]
    exact Rf.weak [(1, .int (n + Int32.ofInt 2)), (0, .int (us x (Int32.ofInt 2)))] ⟨rfl, rfl, trivial⟩ (r_nz48 _ _)
theorem r_nz32 (n x : Int32) : Rf K d mc_164 32 (lk [(1, .int n), (0, .int x)]) [] M (fun r M1 => rok me_164.2.2.2.1 r = true ∧ r = some (.int (nz32 n x)) ∧ M1 = M) := by
  refine Rf.go 20 [40] ?_
  refine And.intro (fun hb => ?_) (fun hb => ?_)
  · have e : nz32 n x = nz40 n x := if_pos (of_decide_eq_true hb)
    rw [e]
    exact Rf.weak [(1, .int n), (0, .int x)] ⟨rfl, rfl, trivial⟩ (r_nz40 n x)
  · have e : nz32 n x = nz40 (n + Int32.ofInt 4) (us x (Int32.ofInt 4)) := if_neg (fun q => hb (decide_eq_true q))
    rw [e]
    exact Rf.weak [(1, .int (n + Int32.ofInt 4)), (0, .int (us x (Int32.ofInt 4)))] ⟨rfl, rfl, trivial⟩ (r_nz40 _ _)
theorem r_nz24 (n x : Int32) : Rf K d mc_164 24 (lk [(1, .int n), (0, .int x)]) [] M (fun r M1 => rok me_164.2.2.2.1 r = true ∧ r = some (.int (nz24 n x)) ∧ M1 = M) := by
  refine Rf.go 20 [32] ?_
  refine And.intro (fun hb => ?_) (fun hb => ?_)
  · have e : nz24 n x = nz32 n x := if_pos (of_decide_eq_true hb)
    rw [e]
    exact Rf.weak [(1, .int n), (0, .int x)] ⟨rfl, rfl, trivial⟩ (r_nz32 n x)
  · have e : nz24 n x = nz32 (n + Int32.ofInt 8) (us x (Int32.ofInt 8)) := if_neg (fun q => hb (decide_eq_true q))
    rw [e]
    exact Rf.weak [(1, .int (n + Int32.ofInt 8)), (0, .int (us x (Int32.ofInt 8)))] ⟨rfl, rfl, trivial⟩ (r_nz32 _ _)
theorem t_ntz {x : Int32} (h0 : Int32.ofInt 0 < ((x ^^^ Int32.ofInt (-1)) &&& (x - Int32.ofInt 1))) (h1 : ((x ^^^ Int32.ofInt (-1)) &&& (x - Int32.ofInt 1)) ≤ Int32.ofInt 65536) : Ok K (d + 1) 164 [.int x] M (fun r M1 => r = some (.int (ntzF x)) ∧ M1 = M) := by
  refine Ok.go (e := me_164) rfl rfl (Nat.le_of_ble_eq_true rfl) rfl ?_
  rw [nz_F]
  refine Rf.go 60 [24] ?_
  refine And.intro (fun _ => ?_) (fun hb => absurd (decide_eq_true h0) hb)
  refine And.intro (fun _ => ?_) (fun hb => absurd (decide_eq_true h1) hb)
  exact Rf.weak [(1, .int (Int32.ofInt 1)), (0, .int ((x ^^^ Int32.ofInt (-1)) &&& (x - Int32.ofInt 1)))] ⟨rfl, rfl, trivial⟩ (r_nz24 _ _)
end Nz
theorem ntz_sp {p : Nat} (h3 : 3 ≤ p) (hp : p ≤ 32749) (ho : p % 2 = 1) : (Int32.ofInt 0 < ((nI (p - 1) ^^^ Int32.ofInt (-1)) &&& (nI (p - 1) - Int32.ofInt 1)) ∧ ((nI (p - 1) ^^^ Int32.ofInt (-1)) &&& (nI (p - 1) - Int32.ofInt 1)) ≤ Int32.ofInt 65536) ∧ ∃ k c, k < 15 ∧ ntzF (nI (p - 1)) = nI (k + 1) ∧ p - 1 = 2 ^ (k + 1) * (2 * c + 1) := by
  have h := ntzA_at ntz_all (show (p - 3) / 2 < 16374 by omega)
  unfold ntzP at h
  rw [show 2 * ((p - 3) / 2) + 2 = p - 1 by omega] at h
  rw [Bool.and_eq_true, Bool.and_eq_true, List.any_eq_true] at h
  obtain ⟨a, b, k, hk, hc⟩ := h
  rw [Bool.and_eq_true, Bool.and_eq_true] at hc
  refine ⟨⟨of_decide_eq_true a, of_decide_eq_true b⟩, k, (p - 1) / 2 ^ (k + 1) / 2, List.mem_range.mp hk, of_decide_eq_true hc.1, ?_⟩
  have h1 := of_decide_eq_true hc.2.1
  have h2 := of_decide_eq_true hc.2.2
  have h3 := Nat.div_add_mod (p - 1) (2 ^ (k + 1))
  rw [h1, Nat.add_zero] at h3
  rw [show 2 * ((p - 1) / 2 ^ (k + 1) / 2) + 1 = (p - 1) / 2 ^ (k + 1) by omega, h3]
theorem shr15 {n k : Nat} (hn : n < 2 ^ 31) (hk : k < 16) : nI n >>> (nI k &&& 31) = nI (n / 2 ^ k) := by
  refine pk_shrN hn _ k ?_
  have key : ∀ k, k < 16 → ((nI k &&& 31).toBitVec.smod 32).toNat = k := by decide
  exact key k hk
/-- the table's places that hold for every prime -/
def Tb0 (I : Nat → Nat → Int32) (T : Nat) : Prop := ∀ i j, i < 8 → j < 8 → i &&& j = 0 → I (T + 5) ((i * 8 + j) * 4) = nI 1
set_option maxHeartbeats 2000000 in
theorem e_begin {K : Ka} {d T p : Nat} [NeZero p] {M : Me} {I : Nat → Nat → Int32} {J : Nat → Nat → Int64} (hT : isC M T 3 = true) (hp : Pr p) (h3 : 3 ≤ p) (hp2 : p ≤ 32749) (ho : p % 2 = 1) (hb : Tb0 I T) : Ok K (d + 2) 44 [.ref T, .int (nI p)] (St M I J) (fun r M1 => r = none ∧ ∃ I1, M1 = St M I1 J ∧ (∀ a, a ≠ T → I1 a = I a) ∧ ∀ D, TwA I1 T p 0 D) := by
  obtain ⟨⟨n1, n2⟩, k, c, hk, hn, hpc⟩ := ntz_sp h3 hp2 ho
  refine Ok.go (e := me_44) rfl rfl (Nat.le_of_ble_eq_true rfl) hT ?_
  generalize hpost : (fun (r : Option Value) (M1 : Me) => rok me_44.2.2.2.1 r = true ∧ r = none ∧ ∃ I1, M1 = St M I1 J ∧ (∀ a, a ≠ T → I1 a = I a) ∧ ∀ D, TwA I1 T p 0 D) = post
  have tail : ∀ (I1 : Nat → Nat → Int32) (g : Fin p), (∀ a, a ≠ T → I1 a = I a) → I1 T 0 = nI p → I1 T 1 = nI 0 → I1 T 10 = nI (2 * c + 1) → I1 T 11 = nI (k + 1) → pw g ((p - 1) / 2) = -1 → Rf K (d + 1) mc_44 45 (lk [(2, .int (nI g.val)), (0, .ref T)]) [] (St M I1 J) post := by
    intro I1 g f1 e0 e1 e10 e11 hg
    refine Rf.go 100 [] ?_
    refine And.intro hT ?_
    have q := t_power (K := K) (d := d) (M := M) (I := I1) (J := J) (T := T) (p := p) (a := g.val) (n := 2 * c + 1) hT e0 (by omega) hp2 g.isLt (by
      have h1 : 1 ≤ 2 ^ (k + 1) := Nat.pow_pos (by decide)
      have h2 := Nat.mul_le_mul_right (2 * c + 1) h1
      omega)
    rw [← e10] at q
    refine q.up (Nat.le_refl _) ?_
    rintro r M1 ⟨rfl, rfl⟩
    refine And.intro hT ?_
    rw [← hpost]
    have u : ∀ i, i ≠ 12 → u2 I1 T 12 (nI (g.val ^ (2 * c + 1) % p)) T i = I1 T i := fun i hi => by rw [u2_at, if_neg hi]
    refine ⟨rfl, rfl, u2 I1 T 12 (nI (g.val ^ (2 * c + 1) % p)), rfl, fun a ha => (u2_ne ha).trans (f1 a ha), fun D => ⟨⟨?_, ?_, by omega, ⟨h3, hp2⟩, fun i j hi hj hc m hm => ?_⟩, ⟨k, c, g, ?_, ?_, ?_, hpc, hg⟩, fun i hi => absurd hi (Nat.not_lt_zero i), fun i hi => absurd hi (Nat.not_lt_zero i), hp, ho⟩⟩
    · rw [u 0 (by decide)]; exact e0
    · rw [u 1 (by decide)]; exact e1
    · have hc : i &&& j = 0 := hc.resolve_right (Nat.not_lt_zero _)
      rw [hc] at hm
      have hm : m < 1 := hm
      have h0 : m = 0 := by omega
      subst h0
      rw [u2_ne (by omega), f1 _ (by omega)]
      unfold uP
      rw [if_pos hc]
      exact hb i j hi hj hc
    · rw [u 10 (by decide)]; exact e10
    · rw [u 11 (by decide)]; exact e11
    · rw [u2_at, if_pos rfl]
  have loop : ∀ m, m ≤ p - 3 → ∀ (I1 : Nat → Nat → Int32), (∀ a, a ≠ T → I1 a = I a) → I1 T 0 = nI p → I1 T 1 = nI 0 → I1 T 10 = nI (2 * c + 1) → I1 T 11 = nI (k + 1) → (∀ b : Fin p, 2 ≤ b.val → b.val < 2 + m → pw b ((p - 1) / 2) = 1) → Rf K (d + 1) mc_44 26 (lk [(2, .int (nI (2 + m))), (0, .ref T)]) [] (St M I1 J) post := by
    have hF := fin_Fl hp ho
    have hne : ¬ (1 : Fin p) = -1 := fun q => hF.ne (hF.dbl (by grind))
    refine for_up (p - 3) (fun I1 f1 e0 e1 e10 e11 hs => ?_) (fun m hm ih I1 f1 e0 e1 e10 e11 hs => ?_)
    · obtain ⟨g, g0, hg⟩ := fin_non hp ho
      have hv : g.val = 2 + (p - 3) := by
        apply Classical.byContradiction
        intro q
        have := g.isLt
        have h0 : g.val ≠ 0 := fun w => g0 (Fin.ext w)
        have h1 : ¬ pw g ((p - 1) / 2) = 1 := fun w => hne (w.symm.trans hg)
        by_cases e : g.val = 1
        · exact h1 (by
            have : g = 1 := Fin.ext (e.trans (fin_one hp).symm)
            rw [this]; exact pw_one _)
        · exact h1 (hs g (by omega) (by omega))
      refine Rf.go 100 [45] ?_
      refine And.intro hT ?_
      refine And.intro (fun _ => ?_) (fun hb => absurd ?_ hb)
      · rw [← hv]
        exact Rf.weak [(2, .int (nI g.val)), (0, .ref T)] ⟨rfl, rfl, trivial⟩ (tail I1 g f1 e0 e1 e10 e11 hg)
      · show decide (I1 T 0 - Int32.ofInt 1 ≤ nI (2 + (p - 3))) = true
        rw [e0, show nI p - Int32.ofInt 1 = nI (p - 1) from pk_sub (b := 1) (by omega), show 2 + (p - 3) = p - 1 by omega]
        exact decide_eq_true (nI_le (Nat.le_refl _) (by omega))
    · have ep : I1 T 0 - Int32.ofInt 1 = nI (p - 1) := by rw [e0]; exact pk_sub (b := 1) (by omega)
      refine Rf.go 100 [26, 45] ?_
      refine And.intro hT ?_
      refine And.intro (fun hb => absurd (of_decide_eq_true hb) ?_) (fun _ => ?_)
      · show ¬ (I1 T 0 - Int32.ofInt 1 ≤ nI (2 + m))
        rw [ep]
        exact nI_ge (by omega) (by omega)
      refine And.intro hT ?_
      refine And.intro (by decide) ?_
      have hlt : 2 + m < p := by omega
      have q := t_power (K := K) (d := d) (M := M) (I := I1) (J := J) (T := T) (p := p) (a := 2 + m) (n := (p - 1) / 2) hT e0 (by omega) hp2 hlt (by omega)
      rw [show nI ((p - 1) / 2) = (I1 T 0 - Int32.ofInt 1) / Int32.ofInt 2 by rw [ep]; exact (pk_div (d := 2) (by omega) (by decide) (by decide)).symm] at q
      refine q.up (Nat.le_refl _) ?_
      rintro r M1 ⟨rfl, rfl⟩
      have hv := fin_pw (p := p) (by omega) ⟨2 + m, hlt⟩ ((p - 1) / 2)
      have hv : (pw (⟨2 + m, hlt⟩ : Fin p) ((p - 1) / 2)).val = (2 + m) ^ ((p - 1) / 2) % p := hv
      have hiff : nI ((2 + m) ^ ((p - 1) / 2) % p) = Int32.ofInt 1 ↔ pw (⟨2 + m, hlt⟩ : Fin p) ((p - 1) / 2) = 1 := by
        rw [← hv]
        constructor
        · intro q
          have q : (pw (⟨2 + m, hlt⟩ : Fin p) ((p - 1) / 2)).val = 1 := (nI_eq (b := 1) (by have := (pw (⟨2 + m, hlt⟩ : Fin p) ((p - 1) / 2)).isLt; omega) (by omega)).mp q
          exact Fin.ext (q.trans (fin_one hp).symm)
        · intro q
          rw [q, fin_one hp]
          rfl
      refine And.intro (fun hb => ?_) (fun hb => ?_)
      · have hb : ¬ nI ((2 + m) ^ ((p - 1) / 2) % p) = Int32.ofInt 1 := of_decide_eq_true hb
        rw [hiff] at hb
        refine Rf.weak [(2, .int (nI (2 + m))), (0, .ref T)] ⟨rfl, rfl, trivial⟩ (tail I1 ⟨2 + m, hlt⟩ f1 e0 e1 e10 e11 ?_)
        refine (fin_pm hp ho (fun w => ?_)).resolve_left hb
        have w := congrArg Fin.val w
        have w : 2 + m = 0 := w
        omega
      · have hb : nI ((2 + m) ^ ((p - 1) / 2) % p) = Int32.ofInt 1 := Classical.not_not.mp (fun q => hb (decide_eq_true q))
        rw [hiff] at hb
        refine Rf.weak [(2, .int (nI (2 + (m + 1)))), (0, .ref T)] ⟨inc1 (2 + m), rfl, trivial⟩ (ih I1 f1 e0 e1 e10 e11 (fun b b1 b2 => ?_))
        by_cases e : b.val = 2 + m
        · rw [show b = ⟨2 + m, hlt⟩ from Fin.ext e]; exact hb
        · exact hs b b1 (by omega)
  have em : (if nI p < Int32.ofInt 3 then Int32.ofInt 3 else nI p) = nI p := if_neg (nI_nlt (b := 3) h3 (by omega))
  refine Rf.go 100 [5] ?_
  refine And.intro (Nat.le_of_ble_eq_true rfl) ?_
  refine And.intro hT ?_
  show Rf K (d + 1) mc_44 5 _ [] (St M (u2 I T 0 (if nI p < Int32.ofInt 3 then Int32.ofInt 3 else nI p)) J) post
  rw [em]
  refine Rf.go 100 [8] ?_
  refine And.intro hT ?_
  show Rf K (d + 1) mc_44 8 _ [] (St M (u2 (u2 I T 0 (nI p)) T 1 (Int32.ofInt 0)) J) post
  have ep : nI p - Int32.ofInt 1 = nI (p - 1) := pk_sub (b := 1) (by omega)
  have a0 : u2 (u2 I T 0 (nI p)) T 1 (Int32.ofInt 0) T 0 = nI p := by rw [u2_at, if_neg (by decide), u2_at, if_pos rfl]
  have a1 : u2 (u2 I T 0 (nI p)) T 1 (Int32.ofInt 0) T 1 = nI 0 := by rw [u2_at, if_pos rfl]; rfl
  have af : ∀ a, a ≠ T → u2 (u2 I T 0 (nI p)) T 1 (Int32.ofInt 0) a = I a := fun a ha => by rw [u2_ne ha, u2_ne ha]
  generalize u2 (u2 I T 0 (nI p)) T 1 (Int32.ofInt 0) = I1 at a0 a1 af ⊢
  refine Rf.go 100 [15] ?_
  refine And.intro hT ?_
  have qn : Ok K (d + 1) 164 [.int (nI (p - 1))] (St M I1 J) (fun r M1 => r = some (.int (nI (k + 1))) ∧ M1 = St M I1 J) := by
    rw [← hn]
    exact t_ntz n1 n2
  rw [← ep, ← a0] at qn
  refine qn.up (Nat.le_refl _) ?_
  rintro r M1 ⟨rfl, rfl⟩
  refine And.intro hT ?_
  show Rf K (d + 1) mc_44 15 _ [] (St M (u2 I1 T 11 (nI (k + 1))) J) post
  have b0 : u2 I1 T 11 (nI (k + 1)) T 0 = nI p := by rw [u2_at, if_neg (by decide)]; exact a0
  have b1 : u2 I1 T 11 (nI (k + 1)) T 1 = nI 0 := by rw [u2_at, if_neg (by decide)]; exact a1
  have b11 : u2 I1 T 11 (nI (k + 1)) T 11 = nI (k + 1) := by rw [u2_at, if_pos rfl]
  have bf : ∀ a, a ≠ T → u2 I1 T 11 (nI (k + 1)) a = I a := fun a ha => by rw [u2_ne ha, af a ha]
  generalize u2 I1 T 11 (nI (k + 1)) = I2 at b0 b1 b11 bf ⊢
  refine Rf.go 100 [26] ?_
  refine And.intro hT ?_
  refine And.intro hT ?_
  refine And.intro hT ?_
  have es : (I2 T 0 - Int32.ofInt 1) >>> (I2 T 11 &&& 31) = nI (2 * c + 1) := by
    rw [b0, b11, ep, shr15 (by omega) (by omega), hpc, Nat.mul_div_cancel_left _ (Nat.pow_pos (by decide))]
  show Rf K (d + 1) mc_44 26 _ [] (St M (u2 I2 T 10 ((I2 T 0 - Int32.ofInt 1) >>> (I2 T 11 &&& 31))) J) post
  rw [es]
  refine Rf.weak [(2, .int (nI (2 + 0))), (0, .ref T)] ⟨rfl, rfl, trivial⟩ (loop 0 (by omega) _ (fun a ha => by rw [u2_ne ha, bf a ha]) ?_ ?_ ?_ ?_ (fun b b1 b2 => absurd b1 (by omega)))
  · rw [u2_at, if_neg (by decide)]; exact b0
  · rw [u2_at, if_neg (by decide)]; exact b1
  · rw [u2_at, if_pos rfl]
  · rw [u2_at, if_neg (by decide)]; exact b11
