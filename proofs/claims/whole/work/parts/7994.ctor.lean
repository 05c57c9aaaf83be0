/-! the constructors, run by the kernel over the empty table -/
def K0 : Ka := fun _ => (0, fun _ => 0)
theorem inb0 (j : Int32) : inb j 0 = false := by simp [inb]
theorem pst_K {K : Ka} {ins : Instr} {k : Nat} {lv : Lv} {st : List Value} {M : Me} {y : Nat × Lv × List Value × Me} (hn : ins ≠ .arraylength) (h : pst K0 ins k lv st M = some y) : pst K ins k lv st M = some y := by
  unfold pst at h ⊢
  split at h
  all_goals first
    | exact h
    | exact absurd rfl hn
    | (cases h; done)
    | (split at h
       · split at h
         · next hq =>
           have hq := (inb0 _).symm.trans hq
           cases hq
         · cases h
       · next hq => exact (if_neg hq).trans h)
def okI (ins : Instr) : Bool := (match ins with
  | .arraylength => false
  | _ => true) && (match isCall ins with
  | some j => decide (j ≠ 168)
  | none => true)
theorem okI_a {ins : Instr} (h : okI ins = true) : ins ≠ .arraylength := fun e => by
  subst e
  cases h
theorem okI_c {ins : Instr} {j : Nat} (h : okI ins = true) (hj : isCall ins = some j) : j ≠ 168 := by
  unfold okI at h
  rw [hj] at h
  have h := (Bool.and_eq_true _ _ ▸ h).2
  exact of_decide_eq_true h
theorem pgo_K {K : Ka} {call call' : Nat → List Value → Me → Option (Option Value × Me)} {code : List Instr} (hco : ∀ ins ∈ code, okI ins = true) (hc : ∀ j as M z, j ≠ 168 → call j as M = some z → call' j as M = some z) : ∀ (n k : Nat) (lv : Lv) (st : List Value) (M : Me) (z : Option Value × Me), pgo K0 call code n k lv st M = some z → pgo K call' code n k lv st M = some z
  | 0, _, _, _, _, _, h => by cases h
  | n + 1, k, lv, st, M, z, h => by
    rw [pgo] at h ⊢
    split at h
    · cases h
    · next ins hi =>
      have ok := hco ins (List.mem_of_getElem? hi)
      try rw [hi]
      try dsimp only
      split at h
      · next hr => (try rw [hr]); exact h
      · next hr =>
        try rw [hr]
        try dsimp only
        split at h
        · next j hj =>
          try rw [hj]
          try dsimp only
          split at h
          · next hif =>
            rw [if_pos hif]
            split at h
            · next r1 M1 hcl =>
              rw [hc _ _ _ _ (okI_c ok hj) hcl]
              exact pgo_K hco hc n _ _ _ _ _ h
            · cases h
          · cases h
        · next hj =>
          try rw [hj]
          try dsimp only
          split at h
          · next hst =>
            rw [pst_K (okI_a ok) hst]
            exact pgo_K hco hc n _ _ _ _ _ h
          · cases h
theorem ok_all : (List.range 168).all (fun j => match mT[j]? with
  | some e => e.2.2.2.2.2.2.2.1.all okI
  | none => true) = true := by decide +kernel
theorem mT_len : mT.length = 169 := by decide +kernel
theorem ok_of {j : Nat} {e : mE} (he : mT[j]? = some e) (hj : j ≠ 168) : ∀ ins ∈ e.2.2.2.2.2.2.2.1, okI ins = true := by
  have hl : j < 168 := by
    have h1 : j < mT.length := by
      apply Classical.byContradiction
      intro w
      rw [List.getElem?_eq_none (by omega)] at he
      cases he
    rw [mT_len] at h1
    omega
  have h := List.all_eq_true.mp ok_all j (List.mem_range.mpr hl)
  rw [he] at h
  exact List.all_eq_true.mp h
theorem pex_K {K : Ka} {f : Nat} : ∀ (d j : Nat) (as : List Value) (M : Me) (z : Option Value × Me), j ≠ 168 → pex K0 f d j as M = some z → pex K f d j as M = some z
  | 0, _, _, _, _, _, h => by cases h
  | d + 1, j, as, M, z, hj, h => by
    rw [pex] at h ⊢
    split at h
    · cases h
    · next e he =>
      try rw [he]
      try dsimp only
      split at h
      · next hg =>
        rw [if_pos hg]
        split at h
        · next r M1 hgo =>
          rw [pgo_K (ok_of he hj) (fun j as M z hj h => pex_K d j as M z hj h) _ _ _ _ _ _ hgo]
          exact h
        · cases h
      · cases h
