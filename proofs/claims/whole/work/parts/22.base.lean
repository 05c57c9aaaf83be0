/-! the wholes modulo a prime are such a field -/
def ev {R : Type} [Lean.Grind.CommRing R] : List R → R → R
  | [], _ => 0
  | c :: cs, x => c + x * ev cs x
def dvq {R : Type} [Lean.Grind.CommRing R] (r : R) : List R → List R × R
  | [] => ([], 0)
  | [c] => ([], c)
  | c :: d :: cs => ((dvq r (d :: cs)).2 :: (dvq r (d :: cs)).1, c + r * (dvq r (d :: cs)).2)
theorem dvq_ev {R : Type} [Lean.Grind.CommRing R] (r x : R) : ∀ cs : List R, ev cs x = (x - r) * ev (dvq r cs).1 x + (dvq r cs).2
  | [] => by
    show (0 : R) = (x - r) * 0 + 0
    grind
  | [c] => by
    show c + x * 0 = (x - r) * 0 + c
    grind
  | c :: d :: cs => by
    have ih := dvq_ev r x (d :: cs)
    show c + x * ev (d :: cs) x = (x - r) * ((dvq r (d :: cs)).2 + x * ev (dvq r (d :: cs)).1 x) + (c + r * (dvq r (d :: cs)).2)
    rw [ih]
    grind
theorem dvq_len {R : Type} [Lean.Grind.CommRing R] (r : R) : ∀ (cs : List R) (n : Nat), cs.length = n + 1 → (dvq r cs).1.length = n
  | [], _, h => by cases h
  | [c], n, h => by
    have h : 1 = n + 1 := h
    show 0 = n
    omega
  | c :: d :: cs, 0, h => by cases h
  | c :: d :: cs, n + 1, h => by
    show (dvq r (d :: cs)).1.length + 1 = n + 1
    rw [dvq_len r (d :: cs) n (by simpa using h)]
theorem dvq_last {R : Type} [Lean.Grind.CommRing R] (r : R) : ∀ (cs : List R) (l : R), 2 ≤ cs.length → cs.getLast? = some l → (dvq r cs).1.getLast? = some l
  | [], _, h, _ => by simp at h
  | [c], _, h, _ => by simp at h
  | [c, d], l, _, h => by
    simp at h
    subst h
    rfl
  | c :: d :: e :: cs, l, _, h => by
    have h1 : (d :: e :: cs).getLast? = some l := by rw [List.getLast?_cons_cons] at h; exact h
    have ih := dvq_last r (d :: e :: cs) l (by simp) h1
    show ((dvq r (d :: e :: cs)).2 :: (dvq r (d :: e :: cs)).1).getLast? = some l
    cases hq : (dvq r (d :: e :: cs)).1 with
    | nil => rw [hq] at ih; cases ih
    | cons y ys => rw [List.getLast?_cons_cons, ← hq]; exact ih
theorem ev_zero_of_dv {R : Type} [Lean.Grind.CommRing R] {r : R} {cs : List R} (h : ev cs r = 0) : (dvq r cs).2 = 0 := by
  have := dvq_ev r r cs
  rw [h] at this
  grind
/-- no more roots than the degree -/
theorem roots_le {R : Type} [Lean.Grind.CommRing R] (h1 : ¬ (1 : R) = 0) (hd : ∀ x y : R, x * y = 0 → x = 0 ∨ y = 0) : ∀ (n : Nat) (cs : List R) (l : R), cs.length = n + 1 → cs.getLast? = some l → ¬ l = 0 → ∀ rs : List R, rs.Nodup → (∀ r ∈ rs, ev cs r = 0) → rs.length ≤ n
  | 0, cs, l, hl, hlast, hl0, rs, _, hr => by
    match cs, hl with
    | [c], _ =>
      cases rs with
      | nil => exact Nat.le_refl 0
      | cons r rs =>
        have h := hr r List.mem_cons_self
        have h : c + r * 0 = 0 := h
        have hc : c = l := by simpa using hlast
        exact absurd (by rw [← hc]; grind) hl0
  | n + 1, cs, l, hl, hlast, hl0, rs, hnd, hr => by
    cases rs with
    | nil => exact Nat.zero_le _
    | cons r rs =>
      have hr0 := ev_zero_of_dv (hr r List.mem_cons_self)
      rw [List.nodup_cons] at hnd
      have ih := roots_le h1 hd n (dvq r cs).1 l (dvq_len r cs (n + 1) hl) (dvq_last r cs l (by omega) hlast) hl0 rs hnd.2 (fun s hs => by
        have h2 := hr s (List.mem_cons_of_mem _ hs)
        rw [dvq_ev r s cs, hr0] at h2
        have h3 : (s - r) * ev (dvq r cs).1 s = 0 := by grind
        rcases hd _ _ h3 with q | q
        · exact absurd (by have : s = r := by grind
                           rw [← this]; exact hs) hnd.1
        · exact q)
      simp only [List.length_cons]
      omega
theorem ev_rep {R : Type} [Lean.Grind.CommRing R] (x : R) : ∀ m, ev (List.replicate m (0 : R) ++ [1]) x = pw x m
  | 0 => by
    show (1 : R) + x * 0 = 1
    grind
  | m + 1 => by
    show (0 : R) + x * ev (List.replicate m (0 : R) ++ [1]) x = pw x m * x
    rw [ev_rep x m]
    grind
section FinP
theorem fin_nm {p : Nat} [NeZero p] (x : Fin p) : ∀ n, (nm n x).val = n * x.val % p
  | 0 => by
    show ((0 : Fin p)).val = 0 * x.val % p
    simp
  | n + 1 => by
    show (nm n x + x).val = _
    rw [Fin.val_add, fin_nm x n, Nat.succ_mul, Nat.mod_add_mod]
theorem fin_ch {p : Nat} [NeZero p] (x : Fin p) : nm p x = 0 := by
  apply Fin.ext
  rw [fin_nm]
  simp
theorem fin_dm {p : Nat} [NeZero p] (hp : Pr p) (x y : Fin p) (h : x * y = 0) : x = 0 ∨ y = 0 := by
  have h1 : (x * y).val = 0 := by rw [h]; rfl
  rw [Fin.val_mul] at h1
  have z : ∀ x : Fin p, p ∣ x.val → x = 0 := fun x hx => by
    apply Fin.ext
    show x.val = (0 : Fin p).val
    have : x.val = 0 := Nat.eq_zero_of_dvd_of_lt hx x.isLt
    rw [this]
    rfl
  rcases hp.dvd (Nat.dvd_of_mod_eq_zero h1) with q | q
  · exact Or.inl (z x q)
  · exact Or.inr (z y q)
theorem fin_one {p : Nat} [NeZero p] (hp : Pr p) : ((1 : Fin p)).val = 1 := by
  show 1 % p = 1
  exact Nat.mod_eq_of_lt hp.1
theorem fin_is {p : Nat} [NeZero p] (hp : Pr p) (x : Fin p) : nm x.val (1 : Fin p) = x := by
  apply Fin.ext
  rw [fin_nm, fin_one hp, Nat.mul_one, Nat.mod_eq_of_lt x.isLt]
theorem fin_fx {p : Nat} [NeZero p] (hp : Pr p) (x : Fin p) : pw x p = x := by
  have key : ∀ n, pw (nm n (1 : Fin p)) p = nm n 1 := by
    intro n
    induction n with
    | zero => exact pw_zero (by have := hp.1; omega)
    | succ n ih =>
      show pw (nm n (1 : Fin p) + 1) p = nm n 1 + 1
      rw [frob hp fin_ch, ih, pw_one]
  have := key x.val
  rw [fin_is hp] at this
  exact this
theorem fin_q1 {p : Nat} [NeZero p] (hp : Pr p) {x : Fin p} (hx : ¬ x = 0) : pw x (p - 1) = 1 := by
  have h1 := fin_fx hp x
  obtain ⟨n, hn⟩ : ∃ n, p = n + 1 := ⟨p - 1, by have := hp.1; omega⟩
  have h1 : pw x (p - 1 + 1) = x := by rw [show p - 1 + 1 = p by omega]; exact h1
  have h1 : pw x (p - 1) * x = x := h1
  have h2 : x * (pw x (p - 1) - 1) = 0 := by grind
  rcases fin_dm hp _ _ h2 with q | q
  · exact absurd q hx
  · grind
theorem fin_pm {p : Nat} [NeZero p] (hp : Pr p) (ho : p % 2 = 1) {x : Fin p} (hx : ¬ x = 0) : pw x ((p - 1) / 2) = 1 ∨ pw x ((p - 1) / 2) = -1 := by
  have h1 := fin_q1 hp hx
  have e : p - 1 = (p - 1) / 2 * 2 := by omega
  rw [e, pw_mul, pw_2] at h1
  have h2 : (pw x ((p - 1) / 2) - 1) * (pw x ((p - 1) / 2) + 1) = 0 := by grind
  rcases fin_dm hp _ _ h2 with q | q
  · left; grind
  · right; grind
/-- there is a residue that is no square -/
theorem fin_non {p : Nat} [NeZero p] (hp : Pr p) (ho : p % 2 = 1) : ∃ g : Fin p, ¬ g = 0 ∧ pw g ((p - 1) / 2) = -1 := by
  apply Classical.byContradiction
  intro hc
  have hall : ∀ g : Fin p, ¬ g = 0 → pw g ((p - 1) / 2) = 1 := fun g hg => (fin_pm hp ho hg).resolve_right (fun q => hc ⟨g, hg, q⟩)
  have hp3 : 3 ≤ p := by have := hp.1; omega
  obtain ⟨m, hm⟩ : ∃ m, (p - 1) / 2 = m + 1 := ⟨(p - 1) / 2 - 1, by omega⟩
  have h10 : ¬ (1 : Fin p) = 0 := fun q => by
    have : ((1 : Fin p)).val = ((0 : Fin p)).val := congrArg Fin.val q
    rw [fin_one hp] at this
    cases this
  have hlen : ((-1 : Fin p) :: (List.replicate m (0 : Fin p) ++ [1])).length = m + 1 + 1 := by rw [List.length_cons, List.length_append, List.length_replicate]; rfl
  have hlast : ((-1 : Fin p) :: (List.replicate m (0 : Fin p) ++ [1])).getLast? = some 1 := by
    show (((-1 : Fin p) :: List.replicate m (0 : Fin p)) ++ [1]).getLast? = some 1
    exact List.getLast?_concat
  have hb := roots_le h10 (fin_dm hp) (m + 1) ((-1 : Fin p) :: (List.replicate m (0 : Fin p) ++ [1])) 1 hlen hlast h10 ((List.range (p - 1)).map (fun i => Fin.ofNat p (i + 1))) ?_ ?_
  · simp only [List.length_map, List.length_range] at hb
    omega
  · unfold List.Nodup
    rw [List.pairwise_map]
    refine List.Pairwise.imp_of_mem ?_ (List.nodup_range (n := p - 1))
    intro a b ha hb hne h
    apply hne
    have h := congrArg Fin.val h
    simp only [List.mem_range] at ha hb
    simp only [Fin.val_ofNat] at h
    rw [Nat.mod_eq_of_lt (by omega), Nat.mod_eq_of_lt (by omega)] at h
    omega
  · intro r hr
    obtain ⟨i, hi, rfl⟩ := List.mem_map.mp hr
    have hi := List.mem_range.mp hi
    show (-1 : Fin p) + Fin.ofNat p (i + 1) * ev (List.replicate m 0 ++ [1]) (Fin.ofNat p (i + 1)) = 0
    rw [ev_rep]
    have h2 := hall (Fin.ofNat p (i + 1)) (fun q => by
      have q := congrArg Fin.val q
      simp only [Fin.val_ofNat] at q
      rw [Nat.mod_eq_of_lt (by omega)] at q
      have : ((0 : Fin p)).val = 0 := rfl
      omega)
    rw [hm] at h2
    have h2 : pw (Fin.ofNat p (i + 1)) m * Fin.ofNat p (i + 1) = 1 := h2
    grind
end FinP
/-- Tonelli and Shanks: the loop, j turns left -/
def ts {p : Nat} [NeZero p] : Nat → Fin p → Fin p → Fin p → Fin p
  | 0, root, _, _ => root
  | j + 1, root, rest, turn => if pw rest (2 ^ j) = 1 then ts j root rest (turn * turn) else ts j (root * turn) (rest * (turn * turn)) (turn * turn)
theorem ts_ok {p : Nat} [NeZero p] (hp : Pr p) (x : Fin p) : ∀ (j : Nat) (root rest turn : Fin p), root * root = x * rest → pw rest (2 ^ j) = 1 → pw turn (2 ^ j) = -1 → ts j root rest turn * ts j root rest turn = x
  | 0, root, rest, turn, h1, h2, h3 => by
    rw [Nat.pow_zero, pw_1] at h2
    show root * root = x
    rw [h1, h2]
    grind
  | j + 1, root, rest, turn, h1, h2, h3 => by
    rw [Nat.pow_succ, pw_mul, pw_2] at h2
    have h3' : pw (turn * turn) (2 ^ j) = -1 := by
      rw [Nat.pow_succ, Nat.mul_comm, pw_mul, pw_2] at h3
      exact h3
    show (if pw rest (2 ^ j) = 1 then ts j root rest (turn * turn) else ts j (root * turn) (rest * (turn * turn)) (turn * turn)) * (if pw rest (2 ^ j) = 1 then ts j root rest (turn * turn) else ts j (root * turn) (rest * (turn * turn)) (turn * turn)) = x
    by_cases hb : pw rest (2 ^ j) = 1
    · rw [if_pos hb]
      exact ts_ok hp x j root rest (turn * turn) h1 hb h3'
    · rw [if_neg hb]
      have h4 : pw rest (2 ^ j) = -1 := by
        have : (pw rest (2 ^ j) - 1) * (pw rest (2 ^ j) + 1) = 0 := by grind
        rcases fin_dm hp _ _ this with q | q
        · exact absurd (by grind) hb
        · grind
      refine ts_ok hp x j (root * turn) (rest * (turn * turn)) (turn * turn) ?_ ?_ h3'
      · grind
      · rw [pw_mulB, h4, h3']
        grind
/-- with p - 1 = 2^(t + 1) o, o odd, and a turner of that order -/
theorem ts_root {p : Nat} [NeZero p] (hp : Pr p) {t o c : Nat} (ho : o = 2 * c + 1) (hpo : p - 1 = 2 ^ (t + 1) * o) {g x : Fin p} (hg : pw g ((p - 1) / 2) = -1) (hx : pw x ((p - 1) / 2) = 1) : ts t (pw x ((o + 1) / 2)) (pw x o) (pw g o) * ts t (pw x ((o + 1) / 2)) (pw x o) (pw g o) = x := by
  have e : (p - 1) / 2 = o * 2 ^ t := by rw [hpo, Nat.pow_succ]; rw [show 2 ^ t * 2 * o = 2 * (o * 2 ^ t) by grind]; omega
  rw [e, pw_mul] at hg hx
  refine ts_ok hp x t _ _ _ ?_ hx hg
  rw [show (o + 1) / 2 = c + 1 by omega, ← pw_add, show c + 1 + (c + 1) = o + 1 by omega]
  show pw x o * x = x * pw x o
  grind
/-- THE BASE OF THE TOWER -/
theorem fin_Fl {p : Nat} [NeZero p] (hp : Pr p) (ho : p % 2 = 1) : Fl (Fin p) p 1 := by
  refine ⟨hp, ho, Nat.one_pos, fin_ch, fun q => ?_, fin_dm hp, fun x => by rw [Nat.pow_one]; exact fin_fx hp x, fun x hx => ?_⟩
  · have : ((1 : Fin p)).val = ((0 : Fin p)).val := congrArg Fin.val q
    rw [fin_one hp] at this
    cases this
  · rw [Nat.pow_one] at hx
    obtain ⟨g, -, hg⟩ := fin_non hp ho
    have hdec : ∀ n : Nat, 0 < n → ∃ t o, n = 2 ^ t * o ∧ o % 2 = 1 := by
      intro n
      induction n using Nat.strongRecOn with
      | ind n ih =>
        intro h0
        by_cases h : n % 2 = 1
        · exact ⟨0, n, by rw [Nat.pow_zero, Nat.one_mul], h⟩
        · obtain ⟨t, o, h1, h2⟩ := ih (n / 2) (by omega) (by omega)
          exact ⟨t + 1, o, by rw [Nat.pow_succ, show 2 ^ t * 2 * o = 2 * (2 ^ t * o) by grind, ← h1]; omega, h2⟩
    obtain ⟨t, o, h1, h2⟩ := hdec (p - 1) (by have := hp.1; omega)
    cases t with
    | zero => rw [Nat.pow_zero, Nat.one_mul] at h1; omega
    | succ t => exact ⟨_, ts_root hp (c := o / 2) (by omega) h1 hg hx⟩
