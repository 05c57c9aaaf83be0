/-! coefficient: the model -/
section Qk
variable {K : Ka} {d o o2 m p h n : Nat} {M : Me} {I G : Nat → Nat → Int32} {J : Nat → Nat → Int64} {D : Nat → Nat → Nat} {kd : Nat → Nat} {tl : Nat → Nat → Int32} {V : Nat → Nat → Nat → Nat} {g : Nat → Nat} {s t u : Int32} {f : Nat → Int32}
theorem rwA_self {c : Nat} : rwA I c (I c) = I := by
  funext b
  by_cases e : b = c
  · rw [e, rwA_eq]
  · rw [rwA_ne e]
theorem rwA_u {c q : Nat} {x : Int32} : u2 (rwA I c f) c q x = rwA I c (va_up f q x) := by
  funext b
  unfold u2
  by_cases e : b = c
  · rw [if_pos e, e, rwA_eq, rwA_eq]
  · rw [if_neg e, rwA_ne e, rwA_ne e]
theorem rgA_u {q : Nat} {x : Int32} : u2 (rg (rwA I (m + 16) f) m G) (m + 16) q x = rg (rwA I (m + 16) (va_up f q x)) m G := by
  rw [rg_u2 (by omega), rwA_u]
theorem rgA_16 : rg (rwA I (m + 16) f) m G (m + 16) = f := (rg_ne (by omega)).trans rwA_eq
theorem MoA.rwA [NeZero p] (hA : MoA I m p h D) : MoA (rwA I (m + 16) f) m p h D := hA.keep (by rw [rwA_ne (by omega)]) (by rw [rwA_ne (by omega)]) (rwA_ne (by omega)) (rwA_ne (by omega))
/-- the model's polynomial after c conjugates -/
def plM (p : Nat) [NeZero p] (D : Nat → Nat → Nat) (h : Nat) (X : TR p D h) (c : Nat) : Nat → TR p D h := @prd (TR p D h) (TI p D h) ((dwn c).map (cj p D h X))
theorem plM_hi [NeZero p] {X : TR p D h} : ∀ {c k : Nat}, c < k → plM p D h X c k = ((TI p D h).ofNat 0).ofNat := fun {c k} hk => @prd_hi (TR p D h) (TI p D h) _ k (by
  rw [List.length_map]
  have e : ∀ c, (dwn c).length = c := fun c => by
    induction c with
    | zero => rfl
    | succ c ih => exact congrArg Nat.succ ih
  rw [e]
  exact hk)
set_option maxHeartbeats 4000000 in
theorem m_coefL [NeZero p] {N ii : Nat} {X : TR p D h} {post : Option Value → Me → Prop} (hM : MoM M m) (hA : MoA I m p h D) (hN : N ≤ 8) (hi : ii ≤ N) (hp : ∀ f G1 J1, post (some (.int (nI (tV p D h (plM p D h X N ii) 0)))) (St M (rg (rwA I (m + 16) f) m G1) J1)) : ∀ c, c ≤ N → ∀ f G J, (∀ k, k ≤ 8 → ∀ j, j < 8 → f (8 * k + j) = nI (tV p D h (plM p D h X c k) j)) → (∀ i, i < N → G (52 + i) = vE p D h (cj p D h X i)) → Rf K (d + 3) mc_157 36 (lk [(4, .int (nI c)), (3, .int (nI N)), (2, .int (nI ii)), (0, .ref m)]) [] (St M (rg (rwA I (m + 16) f) m G) J) (fun r M1 => rok me_157.2.2.2.1 r = true ∧ post r M1) := by
  have hpo : isC M (m + 16) 10 = true ∧ (mH M (m + 16)).2 = 72 := hM.2.2.2.2.2.2.2
  have pb := hA.1.2.2.2.1
  have hh3 := hA.1.2.2.1
  have inp : ∀ (z : Int32) (q : Nat), z = nI q → q < 72 → inb z (mH M (m + 16)).2 = true := fun z q hz hq => by
    rw [hz, hpo.2]
    exact inb_n hq (by omega)
  have inr : ∀ (z : Int32) (q : Nat), z = nI q → q < 512 → inb z (mH M (m + 11)).2 = true := fun z q hz hq => by
    rw [hz, (hM.a512 (a := m + 11) (by omega)).2]
    exact inb_n hq (by omega)
  generalize hpst : (fun (r : Option Value) (M1 : Me) => rok me_157.2.2.2.1 r = true ∧ post r M1) = pst9
  refine for_up N ?_ (fun c hc ih => ?_)
  · intro f G J hf hG
    have e8 : Int32.ofInt 8 * nI ii = nI (8 * ii) := pk_mul 8 ii
    refine Rf.go 100 [36] ?_
    refine And.intro (fun _ => ?_) (fun q => absurd ((geN (by omega) (by omega)).mpr (Nat.le_refl _)) q)
    refine And.intro hM.c ⟨m + 16, hM.r22, ?_⟩
    refine Or.inr (And.intro ⟨hpo.1, inp _ _ e8 (by omega)⟩ ?_)
    rw [← hpst]
    refine ⟨rfl, ?_⟩
    have hp := hp f G J
    rw [← hf ii (by omega) 0 (by decide)] at hp
    show post (some (.int (rg (rwA I (m + 16) f) m G (m + 16) (Int32.ofInt 8 * nI ii).toNatClampNeg))) _
    rw [rgA_16, e8, nI_clamp (by omega)]
    exact hp
  · -- the coefficients from the highest on
    have inner : ∀ e, e ≤ c + 2 → ∀ f G J, (∀ k, k ≤ 8 → ∀ j, j < 8 → f (8 * k + j) = nI (tV p D h (if e ≤ k then plM p D h X (c + 1) k else plM p D h X c k) j)) → (∀ i, i < N → G (52 + i) = vE p D h (cj p D h X i)) → Rf K (d + 3) mc_157 43 (lk [(5, .int (nI e + Int32.ofInt (-1))), (4, .int (nI c)), (3, .int (nI N)), (2, .int (nI ii)), (0, .ref m)]) [] (St M (rg (rwA I (m + 16) f) m G) J) pst9 := by
      intro e
      induction e with
      | zero =>
        intro _ f G J hf hG
        refine Rf.go 100 [36, 43] ?_
        refine And.intro (fun _ => ?_) (fun q => absurd (by decide) q)
        refine Rf.weak [(4, .int (nI (c + 1))), (3, .int (nI N)), (2, .int (nI ii)), (0, .ref m)] ⟨inc1 c, rfl, rfl, rfl, trivial⟩ (ih f G J (fun k hk j hj => ?_) hG)
        rw [hf k hk j hj, if_pos (Nat.zero_le k)]
      | succ k ihe =>
        intro hk f G J hf hG
        have e5 : nI (k + 1) + Int32.ofInt (-1) = nI k := pk_m1 k
        rw [e5]
        have fold : ∀ j, j < 8 → f (8 * k + j) = nI (tV p D h (plM p D h X c k) j) := fun j hj => by
          rw [hf k (by omega) j hj, if_neg (by omega)]
        have fsh : ∀ j, j < 8 → (if k = 0 then Int32.ofInt 0 else f (8 * (k - 1) + j)) = nI (tV p D h (@shf (TR p D h) (TI p D h) (plM p D h X c) k) j) := fun j hj => by
          cases k with
          | zero =>
            rw [if_pos rfl]
            show _ = nI (tV p D h ((TI p D h).ofNat 0).ofNat j)
            rw [tV_zero]
            rfl
          | succ k =>
            rw [if_neg (by omega), show k + 1 - 1 = k by omega, hf k (by omega) j hj, if_neg (by omega)]
            rfl
        -- storing
        have sto : ∀ (G2 : Nat → Nat → Int32), (∀ i, i < N → G2 (52 + i) = vE p D h (cj p D h X i)) → (∀ j, j < 8 → G2 4 j = nI (tV p D h (plM p D h X (c + 1) k) j)) → ∀ j, j ≤ 8 → ∀ f1 J2, (∀ q, q < j → f1 (8 * k + q) = G2 4 q) → (∀ q, (q < 8 * k ∨ 8 * k + 8 ≤ q) → f1 q = f q) → Rf K (d + 3) mc_157 100 (lk [(6, .int (nI j)), (5, .int (nI k)), (4, .int (nI c)), (3, .int (nI N)), (2, .int (nI ii)), (0, .ref m)]) [] (St M (rg (rwA I (m + 16) f1) m G2) J2) pst9 := by
          intro G2 hG2 h4
          refine for_up 8 ?_ (fun j hj ihj => ?_)
          · intro f1 J2 h1 h2
            refine Rf.go 100 [43, 100] ?_
            refine And.intro (fun _ => ?_) (fun q => (ge8n q).elim)
            refine Rf.weak [(5, .int (nI k + Int32.ofInt (-1))), (4, .int (nI c)), (3, .int (nI N)), (2, .int (nI ii)), (0, .ref m)] ⟨rfl, rfl, rfl, rfl, rfl, trivial⟩ (ihe (by omega) f1 G2 J2 (fun k' hk' j' hj' => ?_) hG2)
            by_cases e : k' = k
            · rw [e, h1 j' hj', h4 j' hj', if_pos (Nat.le_refl k)]
            · rw [h2 _ (by omega), hf k' hk' j' hj']
              by_cases c1 : k + 1 ≤ k'
              · rw [if_pos c1, if_pos (by omega)]
              · rw [if_neg c1, if_neg (by omega)]
          · intro f1 J2 h1 h2
            have ex : Int32.ofInt 8 * nI k + nI j = nI (8 * k + j) := ix8e
            have er : Int32.ofInt 32 + nI j = nI (8 * 4 + j) := nI_add 32 j
            refine Rf.go 100 [43, 100] ?_
            refine And.intro (fun q => (ge8 hj q).elim) (fun _ => ?_)
            refine And.intro hM.c ⟨m + 16, hM.r22, ?_⟩
            refine And.intro hM.c ⟨m + 11, hM.r14, ?_⟩
            refine Or.inr (And.intro ⟨hM.rcg, inr _ _ er (by omega)⟩ ?_)
            refine And.intro ⟨hpo.1, inp _ _ ex (by omega)⟩ ?_
            have ev : rg (rwA I (m + 16) f1) m G2 (m + 11) (Int32.ofInt 32 + nI j).toNatClampNeg = G2 4 j := by
              rw [er, nI_clamp (by omega)]
              exact rg_at hj
            have e : u2 (rg (rwA I (m + 16) f1) m G2) (m + 16) (Int32.ofInt 8 * nI k + nI j).toNatClampNeg (rg (rwA I (m + 16) f1) m G2 (m + 11) (Int32.ofInt 32 + nI j).toNatClampNeg) = rg (rwA I (m + 16) (va_up f1 (8 * k + j) (G2 4 j))) m G2 := by
              rw [ev, ex, nI_clamp (by omega), rgA_u]
            have w := ihj (va_up f1 (8 * k + j) (G2 4 j)) J2 (fun q hq => by
              rw [va_i]
              by_cases e : q = j
              · rw [if_pos (by omega), e]
              · rw [if_neg (by omega)]
                exact h1 q (by omega)) (fun q hq => by
              rw [va_i, if_neg (by omega)]
              exact h2 q hq)
            rw [← e] at w
            exact Rf.weak [(6, .int (nI (j + 1))), (5, .int (nI k)), (4, .int (nI c)), (3, .int (nI N)), (2, .int (nI ii)), (0, .ref m)] ⟨inc1 j, rfl, rfl, rfl, rfl, rfl, trivial⟩ w
        -- loading
        have lod : ∀ j, j ≤ 8 → ∀ (G1 : Nat → Nat → Int32) J1, (∀ q, q < j → G1 3 q = f (8 * k + q) ∧ G1 4 q = if k = 0 then Int32.ofInt 0 else f (8 * (k - 1) + q)) → (∀ s, s ≠ 3 → s ≠ 4 → G1 s = G s) → Rf K (d + 3) mc_157 47 (lk [(6, .int (nI j)), (5, .int (nI k)), (4, .int (nI c)), (3, .int (nI N)), (2, .int (nI ii)), (0, .ref m)]) [] (St M (rg (rwA I (m + 16) f) m G1) J1) pst9 := by
          refine for_up 8 ?_ (fun j hj ihj => ?_)
          · intro G1 J1 h1 h2
            have e : rg (rwA I (m + 16) f) m G1 = rg (rwA I (m + 16) f) m (fu (fu G1 3 (vE p D h (plM p D h X c k))) 4 (vE p D h (@shf (TR p D h) (TI p D h) (plM p D h X c) k))) := rg_cong (fun s j hj => by
              by_cases c4 : s = 4
              · rw [c4, fu_eq, (h1 j hj).2, fsh j hj]
                rfl
              · rw [fu_ne c4]
                by_cases c3 : s = 3
                · rw [c3, fu_eq, (h1 j hj).1, fold j hj]
                  rfl
                · rw [fu_ne c3])
            rw [e]
            have g3 : (fu (fu G1 3 (vE p D h (plM p D h X c k))) 4 (vE p D h (@shf (TR p D h) (TI p D h) (plM p D h X c) k))) 3 = vE p D h (plM p D h X c k) := by rw [fu_ne (by decide), fu_eq]
            have g4 : (fu (fu G1 3 (vE p D h (plM p D h X c k))) 4 (vE p D h (@shf (TR p D h) (TI p D h) (plM p D h X c) k))) 4 = vE p D h (@shf (TR p D h) (TI p D h) (plM p D h X c) k) := fu_eq
            have gs : ∀ s, s ≠ 3 → s ≠ 4 → (fu (fu G1 3 (vE p D h (plM p D h X c k))) 4 (vE p D h (@shf (TR p D h) (TI p D h) (plM p D h X c) k))) s = G s := fun s c3 c4 => by rw [fu_ne c4, fu_ne c3]; exact h2 s c3 c4
            generalize fu (fu G1 3 (vE p D h (plM p D h X c k))) 4 (vE p D h (@shf (TR p D h) (TI p D h) (plM p D h X c) k)) = Ga at g3 g4 gs
            refine Rf.go 100 [47, 100] ?_
            refine And.intro (fun _ => ?_) (fun q => (ge8n q).elim)
            have ea : Int32.ofInt 52 + nI c = nI (52 + c) := nI_add 52 c
            refine x_times (d := d) (r := 3) (a := 3) (b := 52 + c) hM hA.rwA.1 rfl rfl ea (by decide) (by decide) (by omega) g3 ((gs (52 + c) (by omega) (by omega)).trans (hG c hc)) (by omega) (fun G2 J2 q2 f2 => ?_)
            refine x_less (d := d) (r := 4) (a := 4) (b := 3) hM rfl rfl rfl (by decide) (by decide) (by decide) hA.rwA.1.1 pb.2 ((f2 4 (by decide)).trans g4) q2 (by omega) (fun G3 J3 q3 f3 => ?_)
            refine Rf.weak [(6, .int (nI 0)), (5, .int (nI k)), (4, .int (nI c)), (3, .int (nI N)), (2, .int (nI ii)), (0, .ref m)] ⟨rfl, rfl, rfl, rfl, rfl, rfl, trivial⟩ (sto G3 (fun i hi => ?_) (fun j hj => ?_) 0 (by omega) f J3 (fun q hq => absurd hq (by omega)) (fun _ _ => rfl))
            · rw [f3 _ (by omega), f2 _ (by omega), gs _ (by omega) (by omega)]
              exact hG i hi
            · rw [q3]
              rfl
          · intro G1 J1 h1 h2
            have ex : Int32.ofInt 8 * nI k + nI j = nI (8 * k + j) := ix8e
            have e3 : Int32.ofInt 24 + nI j = nI (8 * 3 + j) := nI_add 24 j
            have e4 : Int32.ofInt 32 + nI j = nI (8 * 4 + j) := nI_add 32 j
            have mid : ∀ Ga : Nat → Nat → Int32, (∀ q, q < j + 1 → Ga 3 q = f (8 * k + q)) → (∀ q, q < j → Ga 4 q = if k = 0 then Int32.ofInt 0 else f (8 * (k - 1) + q)) → (∀ s, s ≠ 3 → s ≠ 4 → Ga s = G s) → Rf K (d + 3) mc_157 64 (lk [(6, .int (nI j)), (5, .int (nI k)), (4, .int (nI c)), (3, .int (nI N)), (2, .int (nI ii)), (0, .ref m)]) [] (St M (rg (rwA I (m + 16) f) m Ga) J1) pst9 := by
              intro Ga a3 a4 as
              have fin : ∀ x, x = (if k = 0 then Int32.ofInt 0 else f (8 * (k - 1) + j)) → Rf K (d + 3) mc_157 47 (lk [(6, .int (nI (j + 1))), (5, .int (nI k)), (4, .int (nI c)), (3, .int (nI N)), (2, .int (nI ii)), (0, .ref m)]) [] (St M (u2 (rg (rwA I (m + 16) f) m Ga) (m + 11) (Int32.ofInt 32 + nI j).toNatClampNeg x) J1) pst9 := by
                intro x hx
                rw [e4, nI_clamp (by omega), rg_put hj]
                refine ihj _ J1 (fun q hq => ⟨?_, ?_⟩) (fun s c3 c4 => by rw [fu_ne c4]; exact as s c3 c4)
                · rw [fu_ne (by decide)]
                  exact a3 q hq
                · rw [fu_eq]
                  show (if q = j then x else Ga 4 q) = _
                  by_cases e : q = j
                  · rw [if_pos e, e]
                    exact hx
                  · rw [if_neg e]
                    exact a4 q (by omega)
              refine Rf.go 100 [47, 64] ?_
              refine And.intro hM.c ⟨m + 11, hM.r14, ?_⟩
              refine And.intro (fun q => ?_) (fun q => ?_)
              · have q := (le0N (by omega)).mp q
                refine And.intro ⟨hM.rcg, inr _ _ e4 (by omega)⟩ ?_
                exact Rf.weak [(6, .int (nI (j + 1))), (5, .int (nI k)), (4, .int (nI c)), (3, .int (nI N)), (2, .int (nI ii)), (0, .ref m)] ⟨inc1 j, rfl, rfl, rfl, rfl, rfl, trivial⟩ (fin _ (by rw [if_pos q]))
              · have q : ¬ k = 0 := fun w => q ((le0N (by omega)).mpr w)
                have e1 : nI k - Int32.ofInt 1 = nI (k - 1) := pk_sub (b := 1) (by omega)
                have ek : Int32.ofInt 8 * (nI k - Int32.ofInt 1) + nI j = nI (8 * (k - 1) + j) := by rw [e1]; exact ix8e
                refine And.intro hM.c ⟨m + 16, hM.r22, ?_⟩
                refine Or.inr (And.intro ⟨hpo.1, inp _ _ ek (by omega)⟩ ?_)
                refine And.intro ⟨hM.rcg, inr _ _ e4 (by omega)⟩ ?_
                refine Rf.weak [(6, .int (nI (j + 1))), (5, .int (nI k)), (4, .int (nI c)), (3, .int (nI N)), (2, .int (nI ii)), (0, .ref m)] ⟨inc1 j, rfl, rfl, rfl, rfl, rfl, trivial⟩ (fin _ ?_)
                show rg (rwA I (m + 16) f) m Ga (m + 16) (Int32.ofInt 8 * (nI k - Int32.ofInt 1) + nI j).toNatClampNeg = _
                rw [rgA_16, ek, nI_clamp (by omega), if_neg q]
            refine Rf.go 100 [47, 64] ?_
            refine And.intro (fun q => (ge8 hj q).elim) (fun _ => ?_)
            refine And.intro hM.c ⟨m + 11, hM.r14, ?_⟩
            refine And.intro hM.c ⟨m + 16, hM.r22, ?_⟩
            refine Or.inr (And.intro ⟨hpo.1, inp _ _ ex (by omega)⟩ ?_)
            refine And.intro ⟨hM.rcg, inr _ _ e3 (by omega)⟩ ?_
            have e : u2 (rg (rwA I (m + 16) f) m G1) (m + 11) (Int32.ofInt 24 + nI j).toNatClampNeg (rg (rwA I (m + 16) f) m G1 (m + 16) (Int32.ofInt 8 * nI k + nI j).toNatClampNeg) = rg (rwA I (m + 16) f) m (fu G1 3 (fun q => if q = j then f (8 * k + j) else G1 3 q)) := by
              rw [e3, nI_clamp (by omega), rg_put hj, rgA_16, ex, nI_clamp (by omega)]
            have w := mid (fu G1 3 (fun q => if q = j then f (8 * k + j) else G1 3 q)) (fun q hq => by
              rw [fu_eq]
              show (if q = j then f (8 * k + j) else G1 3 q) = _
              by_cases e : q = j
              · rw [if_pos e, e]
              · rw [if_neg e]
                exact (h1 q (by omega)).1) (fun q hq => by rw [fu_ne (by decide)]; exact (h1 q hq).2) (fun s c3 c4 => by rw [fu_ne c3]; exact h2 s c3 c4)
            rw [← e] at w
            exact Rf.weak [(6, .int (nI j)), (5, .int (nI k)), (4, .int (nI c)), (3, .int (nI N)), (2, .int (nI ii)), (0, .ref m)] ⟨rfl, rfl, rfl, rfl, rfl, rfl, trivial⟩ w
        refine Rf.go 100 [43, 47] ?_
        refine And.intro (fun q => absurd (of_decide_eq_true q) (nI_pos (by omega))) (fun _ => ?_)
        exact Rf.weak [(6, .int (nI 0)), (5, .int (nI k)), (4, .int (nI c)), (3, .int (nI N)), (2, .int (nI ii)), (0, .ref m)] ⟨rfl, rfl, rfl, rfl, rfl, rfl, trivial⟩ (lod 0 (by omega) G J (fun q hq => absurd hq (by omega)) (fun _ _ _ => rfl))
    intro f G J hf hG
    refine Rf.go 100 [36, 43] ?_
    refine And.intro (fun q => absurd ((geN (by omega) (by omega)).mp q) (by omega)) (fun _ => ?_)
    have e5 : nI c + Int32.ofInt 1 = nI (c + 2) + Int32.ofInt (-1) := (nI_1 c).trans (pk_m1 (c + 1)).symm
    refine Rf.weak [(5, .int (nI (c + 2) + Int32.ofInt (-1))), (4, .int (nI c)), (3, .int (nI N)), (2, .int (nI ii)), (0, .ref m)] ⟨congrArg (fun z => some (Value.int z)) e5, rfl, rfl, rfl, rfl, trivial⟩ (inner (c + 2) (Nat.le_refl _) f G J (fun k hk j hj => ?_) hG)
    rw [hf k hk j hj]
    by_cases c1 : c + 2 ≤ k
    · rw [if_pos c1, plM_hi (by omega), plM_hi (by omega)]
    · rw [if_neg c1]
end Qk
