/-! The model's prime -/
def cpy (I : Nat → Nat → Int32) (dst src i : Nat) : Nat → Nat → Int32 := fun b => if b = dst then (fun q => if q < i then I src q else I dst q) else I b
section Mp
variable {K : Ka} {d m p h n k : Nat} {M : Me} {I : Nat → Nat → Int32} {J : Nat → Nat → Int64} {D : Nat → Nat → Nat} {kd : Nat → Nat} {tl : Nat → Nat → Int32} {V : Nat → Nat → Nat → Nat} {g : Nat → Nat} {G : Nat → Nat → Int32} {x : Int32}
theorem cpy_0 {dst src : Nat} : cpy I dst src 0 = I := by
  funext b
  unfold cpy
  split
  · next e => rw [e]; funext q; exact if_neg (Nat.not_lt_zero q)
  · rfl
theorem cpy_n {dst src i b : Nat} (h : b ≠ dst) : cpy I dst src i b = I b := if_neg h
theorem cpy_e {dst src i q : Nat} : cpy I dst src i dst q = if q < i then I src q else I dst q := by
  unfold cpy
  rw [if_pos rfl]
theorem cpy_s {dst src i : Nat} (h1 : src ≠ dst) (h2 : dst ≠ m + 11) (h3 : src ≠ m + 11) (hi : i < 2 ^ 31) : u2 (rg (cpy I dst src i) m G) dst (nI i).toNatClampNeg (rg (cpy I dst src i) m G src (nI i).toNatClampNeg) = rg (cpy I dst src (i + 1)) m G := by
  rw [nI_clamp hi, rg_ne h3, cpy_n h1, rg_u2 h2]
  congr 1
  funext b
  unfold u2
  by_cases e : b = dst
  · rw [if_pos e]
    funext q
    rw [va_i, e, cpy_e, cpy_e]
    by_cases e2 : q = i
    · rw [if_pos e2, if_pos (by omega), e2]
    · rw [if_neg e2]
      by_cases e3 : q < i
      · rw [if_pos e3, if_pos (by omega)]
      · rw [if_neg e3, if_neg (by omega)]
  · rw [if_neg e, cpy_n e, cpy_n e]
theorem MoM.r18 (hM : MoM M m) : mR M m 18 = some (m + 13) := hM.2.2.1.1
theorem MoM.r19 (hM : MoM M m) : mR M m 19 = some (m + 14) := hM.2.2.1.2.1
theorem MoM.r20 (hM : MoM M m) : mR M m 20 = some (m + 15) := hM.2.2.1.2.2.1
theorem MoM.r22 (hM : MoM M m) : mR M m 22 = some (m + 16) := hM.2.2.1.2.2.2
theorem MoM.ov (hM : MoM M m) : isC M (m + 13) 10 = true ∧ (mH M (m + 13)).2 = 1440 := hM.2.2.2.2.1
theorem MoM.ob (hM : MoM M m) : isC M (m + 14) 10 = true ∧ (mH M (m + 14)).2 = 24 := hM.2.2.2.2.2.1
theorem MoM.og (hM : MoM M m) : isC M (m + 15) 12 = true ∧ (mH M (m + 15)).2 = 60 := hM.2.2.2.2.2.2.1
set_option maxHeartbeats 1000000 in
theorem q_1 {v1 v2 v3 : Int32} {post : Option Value → Me → Prop} (hM : MoM M m) (hx : Rf K d mc_142 44 (lk [(0, .ref m), (1, .int v1), (2, .int v2), (3, .int v3)]) [] (St M (rg (cpy I (m + 13) (m + 7) 1440) m G) J) post) : Rf K d mc_142 31 (lk [(4, .int (nI 0)), (0, .ref m), (1, .int v1), (2, .int v2), (3, .int v3)]) [] (St M (rg I m G) J) post := by
  have key : ∀ i, i ≤ 1440 → Rf K d mc_142 31 (lk [(4, .int (nI i)), (0, .ref m), (1, .int v1), (2, .int v2), (3, .int v3)]) [] (St M (rg (cpy I (m + 13) (m + 7) i) m G) J) post := by
    refine for_up 1440 ?_ (fun i hi ih => ?_)
    · refine Rf.go 100 [44] ?_
      refine And.intro (fun _ => ?_) (fun q => absurd (by decide) q)
      exact Rf.weak [(0, .ref m), (1, .int v1), (2, .int v2), (3, .int v3)] ⟨rfl, rfl, rfl, rfl, trivial⟩ hx
    · refine Rf.go 100 [31] ?_
      refine And.intro (fun q => absurd ((geN (n := 1440) (by omega) (by decide)).mp q) (by omega)) (fun _ => ?_)
      refine And.intro hM.c ⟨m + 13, hM.r18, ?_⟩
      refine And.intro hM.c ⟨m + 7, hM.r10, ?_⟩
      refine Or.inr (And.intro ⟨hM.av.1, by show inb (nI i) (mH M (m + 7)).2 = true; rw [hM.av.2]; exact inb_n hi (by omega)⟩ ?_)
      refine And.intro ⟨hM.ov.1, by show inb (nI i) (mH M (m + 13)).2 = true; rw [hM.ov.2]; exact inb_n hi (by omega)⟩ ?_
      have e := cpy_s (I := I) (m := m) (G := G) (dst := m + 13) (src := m + 7) (i := i) (by omega) (by omega) (by omega) (by omega)
      rw [← e] at ih
      exact Rf.weak [(4, .int (nI (i + 1))), (0, .ref m), (1, .int v1), (2, .int v2), (3, .int v3)] ⟨inc1 i, rfl, rfl, rfl, rfl, trivial⟩ ih
  have := key 0 (Nat.zero_le _)
  rw [cpy_0] at this
  exact this
set_option maxHeartbeats 1000000 in
theorem q_2 {v1 v2 v3 : Int32} {post : Option Value → Me → Prop} (hM : MoM M m) (hx : Rf K d mc_142 59 (lk [(0, .ref m), (1, .int v1), (2, .int v2), (3, .int v3)]) [] (St M (rg (cpy I (m + 14) (m + 8) 24) m G) J) post) : Rf K d mc_142 46 (lk [(4, .int (nI 0)), (0, .ref m), (1, .int v1), (2, .int v2), (3, .int v3)]) [] (St M (rg I m G) J) post := by
  have key : ∀ i, i ≤ 24 → Rf K d mc_142 46 (lk [(4, .int (nI i)), (0, .ref m), (1, .int v1), (2, .int v2), (3, .int v3)]) [] (St M (rg (cpy I (m + 14) (m + 8) i) m G) J) post := by
    refine for_up 24 ?_ (fun i hi ih => ?_)
    · refine Rf.go 100 [59] ?_
      refine And.intro (fun _ => ?_) (fun q => absurd (by decide) q)
      exact Rf.weak [(0, .ref m), (1, .int v1), (2, .int v2), (3, .int v3)] ⟨rfl, rfl, rfl, rfl, trivial⟩ hx
    · refine Rf.go 100 [46] ?_
      refine And.intro (fun q => absurd ((geN (n := 24) (by omega) (by decide)).mp q) (by omega)) (fun _ => ?_)
      refine And.intro hM.c ⟨m + 14, hM.r19, ?_⟩
      refine And.intro hM.c ⟨m + 8, hM.r11, ?_⟩
      refine Or.inr (And.intro ⟨hM.ab.1, by show inb (nI i) (mH M (m + 8)).2 = true; rw [hM.ab.2]; exact inb_n hi (by omega)⟩ ?_)
      refine And.intro ⟨hM.ob.1, by show inb (nI i) (mH M (m + 14)).2 = true; rw [hM.ob.2]; exact inb_n hi (by omega)⟩ ?_
      have e := cpy_s (I := I) (m := m) (G := G) (dst := m + 14) (src := m + 8) (i := i) (by omega) (by omega) (by omega) (by omega)
      rw [← e] at ih
      exact Rf.weak [(4, .int (nI (i + 1))), (0, .ref m), (1, .int v1), (2, .int v2), (3, .int v3)] ⟨inc1 i, rfl, rfl, rfl, rfl, trivial⟩ ih
  have := key 0 (Nat.zero_le _)
  rw [cpy_0] at this
  exact this
set_option maxHeartbeats 1000000 in
theorem q_3 {v1 v2 v3 : Int32} {post : Option Value → Me → Prop} (hM : MoM M m) (hb : ∀ q, q < 60 → I (m + 6) q = 0 ∨ I (m + 6) q = 1) (hx : Rf K d mc_142 74 (lk [(0, .ref m), (1, .int v1), (2, .int v2), (3, .int v3)]) [] (St M (rg (cpy I (m + 15) (m + 6) 60) m G) J) post) : Rf K d mc_142 61 (lk [(4, .int (nI 0)), (0, .ref m), (1, .int v1), (2, .int v2), (3, .int v3)]) [] (St M (rg I m G) J) post := by
  have key : ∀ i, i ≤ 60 → Rf K d mc_142 61 (lk [(4, .int (nI i)), (0, .ref m), (1, .int v1), (2, .int v2), (3, .int v3)]) [] (St M (rg (cpy I (m + 15) (m + 6) i) m G) J) post := by
    refine for_up 60 ?_ (fun i hi ih => ?_)
    · refine Rf.go 100 [74] ?_
      refine And.intro (fun _ => ?_) (fun q => absurd (by decide) q)
      exact Rf.weak [(0, .ref m), (1, .int v1), (2, .int v2), (3, .int v3)] ⟨rfl, rfl, rfl, rfl, trivial⟩ hx
    · refine Rf.go 100 [61] ?_
      refine And.intro (fun q => absurd ((geN (n := 60) (by omega) (by decide)).mp q) (by omega)) (fun _ => ?_)
      refine And.intro hM.c ⟨m + 15, hM.r20, ?_⟩
      refine And.intro hM.c ⟨m + 6, hM.r9, ?_⟩
      refine And.intro ⟨hM.ag.1, by show inb (nI i) (mH M (m + 6)).2 = true; rw [hM.ag.2]; exact inb_n hi (by omega)⟩ ?_
      refine And.intro ⟨hM.og.1, by show inb (nI i) (mH M (m + 15)).2 = true; rw [hM.og.2]; exact inb_n hi (by omega), by show rg (cpy I (m + 15) (m + 6) i) m G (m + 6) (nI i).toNatClampNeg = 0 ∨ rg (cpy I (m + 15) (m + 6) i) m G (m + 6) (nI i).toNatClampNeg = 1; rw [nI_clamp (by omega), rg_ne (by omega), cpy_n (by omega)]; exact hb i hi⟩ ?_
      have e := cpy_s (I := I) (m := m) (G := G) (dst := m + 15) (src := m + 6) (i := i) (by omega) (by omega) (by omega) (by omega)
      rw [← e] at ih
      exact Rf.weak [(4, .int (nI (i + 1))), (0, .ref m), (1, .int v1), (2, .int v2), (3, .int v3)] ⟨inc1 i, rfl, rfl, rfl, rfl, trivial⟩ ih
  have := key 0 (Nat.zero_le _)
  rw [cpy_0] at this
  exact this
set_option maxHeartbeats 1000000 in
theorem q_4 {v3 v6 : Int32} {post : Option Value → Me → Prop} (hM : MoM M m) (hx : Rf K d mc_142 163 (lk [(0, .ref m), (3, .int v3), (6, .int v6)]) [] (St M (rg (cpy I (m + 7) (m + 13) 1440) m G) J) post) : Rf K d mc_142 150 (lk [(7, .int (nI 0)), (0, .ref m), (3, .int v3), (6, .int v6)]) [] (St M (rg I m G) J) post := by
  have key : ∀ i, i ≤ 1440 → Rf K d mc_142 150 (lk [(7, .int (nI i)), (0, .ref m), (3, .int v3), (6, .int v6)]) [] (St M (rg (cpy I (m + 7) (m + 13) i) m G) J) post := by
    refine for_up 1440 ?_ (fun i hi ih => ?_)
    · refine Rf.go 100 [163] ?_
      refine And.intro (fun _ => ?_) (fun q => absurd (by decide) q)
      exact Rf.weak [(0, .ref m), (3, .int v3), (6, .int v6)] ⟨rfl, rfl, rfl, trivial⟩ hx
    · refine Rf.go 100 [150] ?_
      refine And.intro (fun q => absurd ((geN (n := 1440) (by omega) (by decide)).mp q) (by omega)) (fun _ => ?_)
      refine And.intro hM.c ⟨m + 7, hM.r10, ?_⟩
      refine And.intro hM.c ⟨m + 13, hM.r18, ?_⟩
      refine Or.inr (And.intro ⟨hM.ov.1, by show inb (nI i) (mH M (m + 13)).2 = true; rw [hM.ov.2]; exact inb_n hi (by omega)⟩ ?_)
      refine And.intro ⟨hM.av.1, by show inb (nI i) (mH M (m + 7)).2 = true; rw [hM.av.2]; exact inb_n hi (by omega)⟩ ?_
      have e := cpy_s (I := I) (m := m) (G := G) (dst := m + 7) (src := m + 13) (i := i) (by omega) (by omega) (by omega) (by omega)
      rw [← e] at ih
      exact Rf.weak [(7, .int (nI (i + 1))), (0, .ref m), (3, .int v3), (6, .int v6)] ⟨inc1 i, rfl, rfl, rfl, trivial⟩ ih
  have := key 0 (Nat.zero_le _)
  rw [cpy_0] at this
  exact this
set_option maxHeartbeats 1000000 in
theorem q_5 {v3 v6 : Int32} {post : Option Value → Me → Prop} (hM : MoM M m) (hx : Rf K d mc_142 178 (lk [(0, .ref m), (3, .int v3), (6, .int v6)]) [] (St M (rg (cpy I (m + 8) (m + 14) 24) m G) J) post) : Rf K d mc_142 165 (lk [(7, .int (nI 0)), (0, .ref m), (3, .int v3), (6, .int v6)]) [] (St M (rg I m G) J) post := by
  have key : ∀ i, i ≤ 24 → Rf K d mc_142 165 (lk [(7, .int (nI i)), (0, .ref m), (3, .int v3), (6, .int v6)]) [] (St M (rg (cpy I (m + 8) (m + 14) i) m G) J) post := by
    refine for_up 24 ?_ (fun i hi ih => ?_)
    · refine Rf.go 100 [178] ?_
      refine And.intro (fun _ => ?_) (fun q => absurd (by decide) q)
      exact Rf.weak [(0, .ref m), (3, .int v3), (6, .int v6)] ⟨rfl, rfl, rfl, trivial⟩ hx
    · refine Rf.go 100 [165] ?_
      refine And.intro (fun q => absurd ((geN (n := 24) (by omega) (by decide)).mp q) (by omega)) (fun _ => ?_)
      refine And.intro hM.c ⟨m + 8, hM.r11, ?_⟩
      refine And.intro hM.c ⟨m + 14, hM.r19, ?_⟩
      refine Or.inr (And.intro ⟨hM.ob.1, by show inb (nI i) (mH M (m + 14)).2 = true; rw [hM.ob.2]; exact inb_n hi (by omega)⟩ ?_)
      refine And.intro ⟨hM.ab.1, by show inb (nI i) (mH M (m + 8)).2 = true; rw [hM.ab.2]; exact inb_n hi (by omega)⟩ ?_
      have e := cpy_s (I := I) (m := m) (G := G) (dst := m + 8) (src := m + 14) (i := i) (by omega) (by omega) (by omega) (by omega)
      rw [← e] at ih
      exact Rf.weak [(7, .int (nI (i + 1))), (0, .ref m), (3, .int v3), (6, .int v6)] ⟨inc1 i, rfl, rfl, rfl, trivial⟩ ih
  have := key 0 (Nat.zero_le _)
  rw [cpy_0] at this
  exact this
set_option maxHeartbeats 1000000 in
theorem q_6 {v3 v6 : Int32} {post : Option Value → Me → Prop} (hM : MoM M m) (hb : ∀ q, q < 60 → I (m + 15) q = 0 ∨ I (m + 15) q = 1) (hx : Rf K d mc_142 193 (lk [(0, .ref m), (3, .int v3), (6, .int v6)]) [] (St M (rg (cpy I (m + 6) (m + 15) 60) m G) J) post) : Rf K d mc_142 180 (lk [(7, .int (nI 0)), (0, .ref m), (3, .int v3), (6, .int v6)]) [] (St M (rg I m G) J) post := by
  have key : ∀ i, i ≤ 60 → Rf K d mc_142 180 (lk [(7, .int (nI i)), (0, .ref m), (3, .int v3), (6, .int v6)]) [] (St M (rg (cpy I (m + 6) (m + 15) i) m G) J) post := by
    refine for_up 60 ?_ (fun i hi ih => ?_)
    · refine Rf.go 100 [193] ?_
      refine And.intro (fun _ => ?_) (fun q => absurd (by decide) q)
      exact Rf.weak [(0, .ref m), (3, .int v3), (6, .int v6)] ⟨rfl, rfl, rfl, trivial⟩ hx
    · refine Rf.go 100 [180] ?_
      refine And.intro (fun q => absurd ((geN (n := 60) (by omega) (by decide)).mp q) (by omega)) (fun _ => ?_)
      refine And.intro hM.c ⟨m + 6, hM.r9, ?_⟩
      refine And.intro hM.c ⟨m + 15, hM.r20, ?_⟩
      refine And.intro ⟨hM.og.1, by show inb (nI i) (mH M (m + 15)).2 = true; rw [hM.og.2]; exact inb_n hi (by omega)⟩ ?_
      refine And.intro ⟨hM.ag.1, by show inb (nI i) (mH M (m + 6)).2 = true; rw [hM.ag.2]; exact inb_n hi (by omega), by show rg (cpy I (m + 6) (m + 15) i) m G (m + 15) (nI i).toNatClampNeg = 0 ∨ rg (cpy I (m + 6) (m + 15) i) m G (m + 15) (nI i).toNatClampNeg = 1; rw [nI_clamp (by omega), rg_ne (by omega), cpy_n (by omega)]; exact hb i hi⟩ ?_
      have e := cpy_s (I := I) (m := m) (G := G) (dst := m + 6) (src := m + 15) (i := i) (by omega) (by omega) (by omega) (by omega)
      rw [← e] at ih
      exact Rf.weak [(7, .int (nI (i + 1))), (0, .ref m), (3, .int v3), (6, .int v6)] ⟨inc1 i, rfl, rfl, rfl, trivial⟩ ih
  have := key 0 (Nat.zero_le _)
  rw [cpy_0] at this
  exact this
end Mp
