/-- the pure law: every script of at most 2560 ints comes to 1, in the claim's room -/
def kst : List (List Int32) := [[1, 1, 2, 2, 4, 4, 4, 4], [0, 0, 0, 0, 0, 0, 1, 2, 3, 3, 2, 2, 1, 0], [1, 2, 3, 3], [16, 0, 0, 1, 1, 0, 1, 1, 0, 1, 1, 0, 1, 1, 0, 1, 0, 0, 1, 1, 0, 2, 2, 0, 2, 2, 0, 2, 2, 2, 4, 2, 0, 4, 2, 0, 12, 12, 32, 14, 32, 0]]
def Kx (L : Nat) (xs : Nat → Int32) : Ka := fun j => if j = 4 then (L, xs) else ((kst.getD j []).length, fun i => (kst.getD j []).getD i 0)
def M0 : Me := (0, 0, (fun _ => (0, 0)), (fun _ _ => 0), (fun _ _ => 0), (fun _ _ => none))
def PureOk : Prop := ∀ (L : Nat) (xs : Nat → Int32), L ≤ 2560 → ∃ f d MF, pgo (Kx L xs) (pex (Kx L xs) f d) mc_168 f 0 [(0, .ref 4)] [] M0 = some (some (.int 1), MF) ∧ mN MF ≤ 600000 ∧ mS MF ≤ 7302249 ∧ d ≤ 1000
