/-! Integer.numberOfTrailingZeros; Tower.begin -/
def us (x : Int32) (n : Int32) : Int32 := (x.toUInt32 >>> (n.toUInt32 &&& Int32.toUInt32 31)).toInt32
/-- the code of numberOfTrailingZeros, for what is above 0 behind its first row -/
def ntzF (x : Int32) : Int32 :=
  let x0 := (x ^^^ Int32.ofInt (-1)) &&& (x - Int32.ofInt 1)
  let n1 := Int32.ofInt 1
  let x1 := x0
  let n2 := if x1 ≤ Int32.ofInt 256 then n1 else n1 + Int32.ofInt 8
  let x2 := if x1 ≤ Int32.ofInt 256 then x1 else us x1 (Int32.ofInt 8)
  let n3 := if x2 ≤ Int32.ofInt 16 then n2 else n2 + Int32.ofInt 4
  let x3 := if x2 ≤ Int32.ofInt 16 then x2 else us x2 (Int32.ofInt 4)
  let n4 := if x3 ≤ Int32.ofInt 4 then n3 else n3 + Int32.ofInt 2
  let x4 := if x3 ≤ Int32.ofInt 4 then x3 else us x3 (Int32.ofInt 2)
  n4 + us x4 (Int32.ofInt 1)
def ntzP (n : Nat) : Bool := decide (Int32.ofInt 0 < ((nI (2 * n + 2) ^^^ Int32.ofInt (-1)) &&& (nI (2 * n + 2) - Int32.ofInt 1))) && (decide (((nI (2 * n + 2) ^^^ Int32.ofInt (-1)) &&& (nI (2 * n + 2) - Int32.ofInt 1)) ≤ Int32.ofInt 65536) && ((List.range 15).any (fun k => decide (ntzF (nI (2 * n + 2)) = nI (k + 1)) && (decide ((2 * n + 2) % 2 ^ (k + 1) = 0) && decide ((2 * n + 2) / 2 ^ (k + 1) % 2 = 1)))))
def ntzA : Nat → Bool
  | 0 => true
  | n + 1 => ntzP n && ntzA n
theorem ntzA_at : ∀ {N n : Nat}, ntzA N = true → n < N → ntzP n = true
  | 0, _, _, h => absurd h (Nat.not_lt_zero _)
  | N + 1, n, h, hn => by
    have h : (ntzP N && ntzA N) = true := h
    rw [Bool.and_eq_true] at h
    by_cases e : n = N
    · rw [e]; exact h.1
    · exact ntzA_at h.2 (by omega)
theorem ntz_all : ntzA 16374 = true := by decide +kernel
