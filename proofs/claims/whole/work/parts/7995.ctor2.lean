/-! the memory behind the two constructors -/
def Mz : Me := (0, 0, (fun _ => (0, 0)), (fun _ _ => 0), (fun _ _ => 0), (fun _ _ => none))
def Mz1 : Me := mNew Mz 1 6 (fun _ => (4, 0)) (fun _ _ => none)
def Mz2 (M : Me) : Me := mNew M 1 23 (fun _ => (5, 0)) (fun _ _ => none)
def shH (b : Nat) : Nat × Nat := if b = 0 then (1, 0) else if b = 1 then (3, 0) else if b = 2 then (13, 3) else if b = 6 then (10, 256) else if b = 7 then (11, 8) else if b = 12 then (13, 12) else if b = 25 then (13, 183) else if b = 209 then (10, 60) else (10, 8)
def shp (a : Nat) : Nat × Nat := if a < 37 then (if a = 8 then (4, 0) else if a = 9 then (2, 0) else if a = 10 then (10, 60) else if a = 11 then (10, 180) else if a = 12 then (0, 0) else if a = 13 then (13, 9) else if a = 23 then (13, 5) else if a = 29 then (13, 5) else (10, 8)) else if a < 256 then shH (a - 37) else if a < 475 then shH (a - 256) else if a = 475 then (5, 0) else if a ≤ 480 then (10, 60) else if a = 481 then (12, 60) else if a = 482 then (10, 1440) else if a = 483 then (10, 24) else if a ≤ 486 then (10, 512) else if a = 487 then (11, 8) else if a = 488 then (10, 1440) else if a = 489 then (10, 24) else if a = 490 then (12, 60) else (10, 72)
abbrev ckN (M : Me) : Prop := mN M = 484 ∧ mS M ≤ 7302249 ∧ ∀ a, a < 484 → mH M (a + 8) = shp (a + 8)
abbrev ckH (M : Me) (o : Nat) : Prop := mR M o 0 = some (o + 1) ∧ mR M o 1 = some (o + 25) ∧ (∀ i, i < 10 → mR M o (i + 2) = some (o + 209 + i)) ∧ (mR M (o + 1) 2 = some (o + 2) ∧ mR M (o + 1) 3 = some (o + 6) ∧ mR M (o + 1) 4 = some (o + 7) ∧ mR M (o + 1) 5 = some (o + 8) ∧ mR M (o + 1) 6 = some (o + 9) ∧ mR M (o + 1) 7 = some (o + 10) ∧ mR M (o + 1) 8 = some (o + 11) ∧ mR M (o + 1) 9 = some (o + 12)) ∧ (∀ i, i < 3 → mR M (o + 2) i = some (o + 3 + i)) ∧ (∀ i, i < 12 → mR M (o + 12) i = some (o + 13 + i)) ∧ ∀ i, i < 183 → mR M (o + 25) i = some (o + 26 + i)
abbrev ckI (M : Me) (o : Nat) : Prop := mI M (o + 1) 0 = 3 ∧ mI M (o + 1) 1 = 0 ∧ mI M (o + 1) 10 = 1 ∧ mI M (o + 1) 11 = 1 ∧ mI M (o + 1) 12 = 2 ∧ ∀ i, i < 8 → ∀ j, j < 8 → i &&& j = 0 → mI M (o + 6) ((i * 8 + j) * 4) = 1
abbrev ckC (M : Me) : Prop := (mR M 8 0 = some 9 ∧ mR M 8 1 = some 12 ∧ mR M 8 2 = some 37 ∧ mR M 8 3 = some 256) ∧ (mR M 9 1 = some 10 ∧ mR M 9 2 = some 11) ∧ (mR M 12 0 = some 13 ∧ mR M 12 1 = some 23 ∧ mR M 12 2 = some 29 ∧ mR M 12 3 = some 35 ∧ mR M 12 4 = some 36) ∧ (∀ i, i < 9 → mR M 13 i = some (14 + i)) ∧ (∀ i, i < 5 → mR M 23 i = some (24 + i) ∧ mR M 29 i = some (30 + i)) ∧ mI M 8 4 = 0 ∧ mI M 8 5 = 0 ∧ mI M 9 0 = 0
abbrev ckM (M : Me) : Prop := (∀ f, f < 12 → mR M 475 (f + 4) = some (476 + f)) ∧ (mR M 475 18 = some 488 ∧ mR M 475 19 = some 489 ∧ mR M 475 20 = some 490 ∧ mR M 475 22 = some 491) ∧ (mI M 475 0 = 3 ∧ mI M 475 1 = 0 ∧ mI M 475 2 = 0 ∧ mI M 475 3 = 0 ∧ mI M 475 21 = 0) ∧ (∀ q, q < 60 → mI M 481 q = 0) ∧ ∀ k, k < 8 → mI M 484 k = if k = 0 then 1 else 0
def ckB (z : Option (Option Value × Me)) : Bool := match z with
  | some (none, M) => match pex K0 2000 6 93 [.ref 475] (Mz2 M) with
    | some (none, M2) => decide (mN M = 467) && (decide (ckN M2) && (decide (ckH M2 37) && (decide (ckH M2 256) && (decide (ckI M2 37) && (decide (ckI M2 256) && (decide (ckC M2) && decide (ckM M2)))))))
    | _ => false
  | _ => false
theorem ev_ctor : ckB (pex K0 2000 6 72 [.ref 8] Mz1) = true := by decide +kernel
