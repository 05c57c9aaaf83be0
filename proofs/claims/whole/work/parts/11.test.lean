/-! test -/
theorem tst_copy {K : Ka} {d T x out : Nat} {M : Me} (hT : isC M T 3 = true) (hx : isC M x 10 = true) (ho : isC M out 10 = true) (lx : (mH M x).2 = 8) (lo : (mH M out).2 = 8) : Ok K (d + 1) 48 [.ref T, .ref x, .ref out] M (fun r M1 => r = none) := by
  refine Ok.go (e := me_48) rfl rfl (Nat.le_of_ble_eq_true rfl) hT ?_
  refine Rf.go 40 [2] ?_
  refine Rf.weak [(3, _), (0, _), (1, _), (2, _)] ⟨rfl, rfl, rfl, rfl, trivial⟩ ?_
  refine Rf.go 40 [2] ?_
  refine And.intro (fun hb => ?_) (fun hb => ?_)
  · refine And.intro ?_ ?_
    · rfl
    · rfl
  · refine Or.inr (And.intro ⟨hx, ?_⟩ ?_)
    · sorry
    refine And.intro ⟨ho, ?_⟩ ?_
    · sorry
    trace_state
    sorry
