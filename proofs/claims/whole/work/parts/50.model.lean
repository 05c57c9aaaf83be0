/-! The model: its cells and registers -/
def MoM (M : Me) (m : Nat) : Prop := isC M m 5 = true ∧ (∀ f, 4 ≤ f → f < 16 → mR M m f = some (m + f - 3)) ∧ (mR M m 18 = some (m + 13) ∧ mR M m 19 = some (m + 14) ∧ mR M m 20 = some (m + 15) ∧ mR M m 22 = some (m + 16)) ∧ ((∀ a, (m + 1 ≤ a ∧ a ≤ m + 5) → isC M a 10 = true ∧ (mH M a).2 = 60) ∧ (isC M (m + 6) 12 = true ∧ (mH M (m + 6)).2 = 60) ∧ (isC M (m + 7) 10 = true ∧ (mH M (m + 7)).2 = 1440) ∧ (isC M (m + 8) 10 = true ∧ (mH M (m + 8)).2 = 24) ∧ (∀ a, (m + 9 ≤ a ∧ a ≤ m + 11) → isC M a 10 = true ∧ (mH M a).2 = 512) ∧ (isC M (m + 12) 11 = true ∧ (mH M (m + 12)).2 = 8)) ∧ (isC M (m + 13) 10 = true ∧ (mH M (m + 13)).2 = 1440) ∧ (isC M (m + 14) 10 = true ∧ (mH M (m + 14)).2 = 24) ∧ (isC M (m + 15) 12 = true ∧ (mH M (m + 15)).2 = 60) ∧ isC M (m + 16) 10 = true ∧ (mH M (m + 16)).2 = 72
/-- the registers as functions: block r holds G r -/
def rg (I : Nat → Nat → Int32) (m : Nat) (G : Nat → Nat → Int32) : Nat → Nat → Int32 := fun b => if b = m + 11 then (fun q => G (q / 8) (q % 8)) else I b
def fu (G : Nat → Nat → Int32) (r : Nat) (v : Nat → Int32) : Nat → Nat → Int32 := fun s => if s = r then v else G s
def gN (G : Nat → Nat → Int32) (r i : Nat) (f : Nat → Int32) : Nat → Nat → Int32 := fun s => if s = r then (fun j => if j < i then f j else G r j) else G s
/-- an element's ints -/
def vE (p : Nat) [NeZero p] (D : Nat → Nat → Nat) (h : Nat) (X : TR p D h) : Nat → Int32 := fun j => nI (tV p D h X j)
section Mo
variable {K : Ka} {d m p h r a b i j k : Nat} {M : Me} {I : Nat → Nat → Int32} {J : Nat → Nat → Int64} {D : Nat → Nat → Nat} {G : Nat → Nat → Int32} {f g v : Nat → Int32}
theorem MoM.c (hM : MoM M m) : isC M m 5 = true := hM.1
theorem MoM.r4 (hM : MoM M m) : mR M m 4 = some (m + 1) := hM.2.1 4 (by decide) (by decide)
theorem MoM.r5 (hM : MoM M m) : mR M m 5 = some (m + 2) := hM.2.1 5 (by decide) (by decide)
theorem MoM.r6 (hM : MoM M m) : mR M m 6 = some (m + 3) := hM.2.1 6 (by decide) (by decide)
theorem MoM.r7 (hM : MoM M m) : mR M m 7 = some (m + 4) := hM.2.1 7 (by decide) (by decide)
theorem MoM.r8 (hM : MoM M m) : mR M m 8 = some (m + 5) := hM.2.1 8 (by decide) (by decide)
theorem MoM.r9 (hM : MoM M m) : mR M m 9 = some (m + 6) := hM.2.1 9 (by decide) (by decide)
theorem MoM.r10 (hM : MoM M m) : mR M m 10 = some (m + 7) := hM.2.1 10 (by decide) (by decide)
theorem MoM.r11 (hM : MoM M m) : mR M m 11 = some (m + 8) := hM.2.1 11 (by decide) (by decide)
theorem MoM.r12 (hM : MoM M m) : mR M m 12 = some (m + 9) := hM.2.1 12 (by decide) (by decide)
theorem MoM.r13 (hM : MoM M m) : mR M m 13 = some (m + 10) := hM.2.1 13 (by decide) (by decide)
theorem MoM.r14 (hM : MoM M m) : mR M m 14 = some (m + 11) := hM.2.1 14 (by decide) (by decide)
theorem MoM.r15 (hM : MoM M m) : mR M m 15 = some (m + 12) := hM.2.1 15 (by decide) (by decide)
theorem MoM.a60 (hM : MoM M m) {a : Nat} (h : m + 1 ≤ a ∧ a ≤ m + 5) : isC M a 10 = true ∧ (mH M a).2 = 60 := hM.2.2.2.1.1 a h
theorem MoM.ag (hM : MoM M m) : isC M (m + 6) 12 = true ∧ (mH M (m + 6)).2 = 60 := hM.2.2.2.1.2.1
theorem MoM.av (hM : MoM M m) : isC M (m + 7) 10 = true ∧ (mH M (m + 7)).2 = 1440 := hM.2.2.2.1.2.2.1
theorem MoM.ab (hM : MoM M m) : isC M (m + 8) 10 = true ∧ (mH M (m + 8)).2 = 24 := hM.2.2.2.1.2.2.2.1
theorem MoM.a512 (hM : MoM M m) {a : Nat} (h : m + 9 ≤ a ∧ a ≤ m + 11) : isC M a 10 = true ∧ (mH M a).2 = 512 := hM.2.2.2.1.2.2.2.2.1 a h
theorem MoM.as (hM : MoM M m) : isC M (m + 12) 11 = true ∧ (mH M (m + 12)).2 = 8 := hM.2.2.2.1.2.2.2.2.2
theorem MoM.rcg (hM : MoM M m) : isC M (m + 11) 10 = true := (hM.a512 (a := m + 11) (by omega)).1
theorem ix8e : Int32.ofInt 8 * nI a + nI i = nI (8 * a + i) := by rw [show Int32.ofInt 8 = nI 8 from rfl, pk_mul, nI_add]
theorem ix8 (ha : a < 64) (hi : i < 8) : (Int32.ofInt 8 * nI a + nI i).toNatClampNeg = 8 * a + i := by rw [ix8e, nI_clamp (by omega)]
theorem MoM.ing (hM : MoM M m) (ha : a < 64) (hi : i < 8) : inb (Int32.ofInt 8 * nI a + nI i) (mH M (m + 11)).2 = true := by
  rw [ix8e, (hM.a512 (a := m + 11) (by omega)).2]
  exact inb_n (by omega) (by omega)
theorem rg_ne (h : b ≠ m + 11) : rg I m G b = I b := if_neg h
theorem rg_m : rg I m G m = I m := if_neg (by omega)
theorem rg_at (hj : j < 8) : rg I m G (m + 11) (8 * r + j) = G r j := by
  unfold rg
  rw [if_pos rfl]
  show G ((8 * r + j) / 8) ((8 * r + j) % 8) = G r j
  rw [show (8 * r + j) / 8 = r by omega, show (8 * r + j) % 8 = j by omega]
theorem rg_cong {G' : Nat → Nat → Int32} (hc : ∀ s j, j < 8 → G s j = G' s j) : rg I m G = rg I m G' := by
  funext b
  unfold rg
  split
  · funext q
    exact hc _ _ (Nat.mod_lt _ (by decide))
  · rfl
theorem fu_eq : fu G r v r = v := if_pos rfl
theorem fu_ne (h : a ≠ r) : fu G r v a = G a := if_neg h
theorem gN_0 : gN G r 0 f = G := by
  funext s
  unfold gN
  split
  · next e => rw [e]; funext j; exact if_neg (Nat.not_lt_zero j)
  · rfl
theorem gN_cur (h : i ≤ j) : gN G r i f a j = G a j := by
  unfold gN
  split
  · next e => rw [e]; exact if_neg (by omega)
  · rfl
theorem gN_ne (h : a ≠ r) : gN G r i f a = G a := if_neg h
theorem rg_8 : rg I m (gN G r 8 f) = rg I m (fu G r f) := rg_cong (fun s j hj => by
  unfold gN fu
  split
  · exact if_pos hj
  · rfl)
theorem rg_fu (hc : ∀ j, j < 8 → f j = g j) : rg I m (fu G r f) = rg I m (fu G r g) := rg_cong (fun s j hj => by
  unfold fu
  split
  · exact hc j hj
  · rfl)
theorem rg_put {x : Int32} (hi : i < 8) : u2 (rg I m G) (m + 11) (8 * r + i) x = rg I m (fu G r (fun j => if j = i then x else G r j)) := by
  funext b
  unfold u2 rg
  by_cases e : b = m + 11
  · rw [if_pos e, if_pos e, if_pos rfl]
    funext q
    unfold va_up fu
    by_cases e2 : q = 8 * r + i
    · rw [if_pos e2]
      rw [show q / 8 = r by omega, show q % 8 = i by omega, if_pos rfl]
      exact (if_pos rfl).symm
    · rw [if_neg e2]
      by_cases e3 : q / 8 = r
      · rw [if_pos e3]
        show G (q / 8) (q % 8) = if q % 8 = i then x else G r (q % 8)
        rw [if_neg (by omega), e3]
      · rw [if_neg e3]
  · rw [if_neg e, if_neg e, if_neg e]
theorem gN_step {x : Int32} (hx : x = f i) : fu (gN G r i f) r (fun j => if j = i then x else gN G r i f r j) = gN G r (i + 1) f := by
  funext s
  unfold fu
  by_cases e : s = r
  · rw [if_pos e]
    unfold gN
    rw [if_pos e, if_pos rfl]
    funext j
    by_cases e2 : j = i
    · rw [if_pos e2, if_pos (by omega), e2, hx]
    · rw [if_neg e2]
      by_cases e3 : j < i
      · rw [if_pos e3, if_pos (by omega)]
      · rw [if_neg e3, if_neg (by omega)]
  · rw [if_neg e]
    unfold gN
    rw [if_neg e, if_neg e]
theorem Rf.rgS {code : List Instr} {k : Nat} {L : Lf} {x : Int32} {post : Option Value → Me → Prop} (hr : r < 64) (hi : i < 8) (hv : x = f i) (ih : Rf K d code k L [] (St M (rg I m (gN G r (i + 1) f)) J) post) : Rf K d code k L [] (wI (St M (rg I m (gN G r i f)) J) (u2 (mI (St M (rg I m (gN G r i f)) J)) (m + 11) (Int32.ofInt 8 * nI r + nI i).toNatClampNeg x)) post := by
  have e : u2 (rg I m (gN G r i f)) (m + 11) (Int32.ofInt 8 * nI r + nI i).toNatClampNeg x = rg I m (gN G r (i + 1) f) := by rw [ix8 hr hi, rg_put hi, gN_step hv]
  rw [← e] at ih
  exact ih
theorem rd (ha : a < 64) (hi : i < 8) : rg I m (gN G r i f) (m + 11) (Int32.ofInt 8 * nI a + nI i).toNatClampNeg = G a i := by rw [ix8 ha hi, rg_at hi, gN_cur (Nat.le_refl i)]

set_option maxHeartbeats 2000000 in
theorem m_copy {r a d' : Nat} {z1 z2 : Int32} {post : Option Value → Me → Prop} (hM : MoM M m) (hz1 : z1 = nI r) (hz2 : z2 = nI a) (hr : r < 64) (ha : a < 64) (hd : d + 1 ≤ d') (hp : ∀ J1, post none (St M (rg I m (fu G r (G a))) J1)) : Ok K d' 98 [.ref m, .int z1, .int z2] (St M (rg I m G) J) post := by
  refine Ok.up (d := d + 1) (post := post) ?_ hd (fun _ _ h => h)
  subst hz1 hz2
  refine Ok.go (e := me_98) rfl rfl (Nat.le_of_ble_eq_true rfl) hM.c ?_
  have key : ∀ i, i ≤ 8 → Rf K d mc_98 2 (lk [(3, .int (nI i)), (0, .ref m), (1, .int (nI r)), (2, .int (nI a))]) [] (St M (rg I m (gN G r i (G a))) J) (fun r M1 => rok me_98.2.2.2.1 r = true ∧ post r M1) := by
    refine for_up 8 ?_ (fun i hi ih => ?_)
    · refine Rf.go 100 [2] ?_
      refine And.intro (fun _ => ?_) (fun hb => (ge8n hb).elim)
      exact ⟨rfl, by have := hp J; rw [← rg_8] at this; exact this⟩
    · refine Rf.go 100 [2] ?_
      refine And.intro (fun hb => (ge8 hi hb).elim) (fun _ => ?_)
      refine And.intro hM.c ⟨m + 11, hM.r14, ?_⟩
      refine And.intro hM.c ⟨m + 11, hM.r14, ?_⟩
      refine Or.inr (And.intro ⟨hM.rcg, hM.ing ha hi⟩ ?_)
      refine And.intro ⟨hM.rcg, hM.ing hr hi⟩ ?_
      refine Rf.weak [(3, .int (nI (i + 1))), (0, .ref m), (1, .int (nI r)), (2, .int (nI a))] ⟨inc1 i, rfl, rfl, rfl, trivial⟩ (Rf.rgS hr hi ?_ ih)
      exact rd ha hi
  refine Rf.go 100 [2] ?_
  refine Rf.weak [(3, .int (nI 0)), (0, .ref m), (1, .int (nI r)), (2, .int (nI a))] ⟨rfl, rfl, rfl, rfl, trivial⟩ ?_
  have := key 0 (by omega)
  rw [gN_0] at this
  exact this
set_option maxHeartbeats 2000000 in
theorem m_add [NeZero p] {r a b d' : Nat} {z1 z2 z3 : Int32} {X Y : TR p D h} {post : Option Value → Me → Prop} (hM : MoM M m) (hz1 : z1 = nI r) (hz2 : z2 = nI a) (hz3 : z3 = nI b) (hr : r < 64) (ha : a < 64) (hb : b < 64) (hp0 : I m 0 = nI p) (hpb : p ≤ 32749) (hX : G a = vE p D h X) (hY : G b = vE p D h Y) (hd : d + 1 ≤ d') (hp : ∀ J1, post none (St M (rg I m (fu G r (vE p D h ((TI p D h).add X Y)))) J1)) : Ok K d' 99 [.ref m, .int z1, .int z2, .int z3] (St M (rg I m G) J) post := by
  refine Ok.up (d := d + 1) (post := post) ?_ hd (fun _ _ h => h)
  subst hz1 hz2 hz3
  refine Ok.go (e := me_99) rfl rfl (Nat.le_of_ble_eq_true rfl) hM.c ?_
  have key : ∀ i, i ≤ 8 → Rf K d mc_99 2 (lk [(4, .int (nI i)), (0, .ref m), (1, .int (nI r)), (2, .int (nI a)), (3, .int (nI b))]) [] (St M (rg I m (gN G r i (vE p D h ((TI p D h).add X Y)))) J) (fun r M1 => rok me_99.2.2.2.1 r = true ∧ post r M1) := by
    refine for_up 8 ?_ (fun i hi ih => ?_)
    · refine Rf.go 100 [2] ?_
      refine And.intro (fun _ => ?_) (fun hb => (ge8n hb).elim)
      exact ⟨rfl, by have := hp J; rw [← rg_8] at this; exact this⟩
    · refine Rf.go 100 [2] ?_
      refine And.intro (fun hb => (ge8 hi hb).elim) (fun _ => ?_)
      refine And.intro hM.c ⟨m + 11, hM.r14, ?_⟩
      refine Or.inr (And.intro ⟨hM.rcg, hM.ing ha hi⟩ ?_)
      refine And.intro hM.c ⟨m + 11, hM.r14, ?_⟩
      refine Or.inr (And.intro ⟨hM.rcg, hM.ing hb hi⟩ ?_)
      refine And.intro hM.c ⟨m + 11, hM.r14, ?_⟩
      have h1 := tV_lt (p := p) (D := D) (x := X) (j := i)
      have h2 := tV_lt (p := p) (D := D) (x := Y) (j := i)
      have es : rg I m (gN G r i (vE p D h ((TI p D h).add X Y))) (m + 11) (Int32.ofInt 8 * nI a + nI i).toNatClampNeg + rg I m (gN G r i (vE p D h ((TI p D h).add X Y))) (m + 11) (Int32.ofInt 8 * nI b + nI i).toNatClampNeg = nI (tV p D h X i + tV p D h Y i) := by
        rw [rd ha hi, rd hb hi, hX, hY, ← nI_add]
        rfl
      have ep : rg I m (gN G r i (vE p D h ((TI p D h).add X Y))) m 0 = nI p := by rw [rg_m]; exact hp0
      refine And.intro hM.c ?_
      refine And.intro (fun hc => ?_) (fun hc => ?_)
      · have hc := of_decide_eq_true hc
        have hc : rg I m (gN G r i (vE p D h ((TI p D h).add X Y))) (m + 11) (Int32.ofInt 8 * nI a + nI i).toNatClampNeg + rg I m (gN G r i (vE p D h ((TI p D h).add X Y))) (m + 11) (Int32.ofInt 8 * nI b + nI i).toNatClampNeg < rg I m (gN G r i (vE p D h ((TI p D h).add X Y))) m 0 := hc
        rw [es, ep] at hc
        have hc := (nI_ltI (by omega) (by omega)).mp hc
        refine And.intro ⟨hM.rcg, hM.ing hr hi⟩ ?_
        refine Rf.weak [(4, .int (nI (i + 1))), (0, .ref m), (1, .int (nI r)), (2, .int (nI a)), (3, .int (nI b))] ⟨inc1 i, rfl, rfl, rfl, rfl, trivial⟩ (Rf.rgS hr hi ?_ ih)
        refine es.trans ?_
        unfold vE
        rw [tV_add, Nat.mod_eq_of_lt hc]
      · have hc : ¬ rg I m (gN G r i (vE p D h ((TI p D h).add X Y))) (m + 11) (Int32.ofInt 8 * nI a + nI i).toNatClampNeg + rg I m (gN G r i (vE p D h ((TI p D h).add X Y))) (m + 11) (Int32.ofInt 8 * nI b + nI i).toNatClampNeg < rg I m (gN G r i (vE p D h ((TI p D h).add X Y))) m 0 := fun q => hc (decide_eq_true q)
        rw [es, ep] at hc
        have hc : ¬ tV p D h X i + tV p D h Y i < p := fun q => hc (nI_lt q (by omega))
        refine And.intro hM.c ?_
        refine And.intro ⟨hM.rcg, hM.ing hr hi⟩ ?_
        refine Rf.weak [(4, .int (nI (i + 1))), (0, .ref m), (1, .int (nI r)), (2, .int (nI a)), (3, .int (nI b))] ⟨inc1 i, rfl, rfl, rfl, rfl, trivial⟩ (Rf.rgS hr hi ?_ ih)
        refine (show _ = nI (tV p D h X i + tV p D h Y i) - nI p by rw [← es, ← ep]; rfl).trans ?_
        unfold vE
        rw [tV_add, pk_sub (by omega), Nat.mod_eq_sub_mod (by omega), Nat.mod_eq_of_lt (by omega)]
  refine Rf.go 100 [2] ?_
  refine Rf.weak [(4, .int (nI 0)), (0, .ref m), (1, .int (nI r)), (2, .int (nI a)), (3, .int (nI b))] ⟨rfl, rfl, rfl, rfl, rfl, trivial⟩ ?_
  have := key 0 (by omega)
  rw [gN_0] at this
  exact this
set_option maxHeartbeats 2000000 in
theorem m_less [NeZero p] {r a b d' : Nat} {z1 z2 z3 : Int32} {X Y : TR p D h} {post : Option Value → Me → Prop} (hM : MoM M m) (hz1 : z1 = nI r) (hz2 : z2 = nI a) (hz3 : z3 = nI b) (hr : r < 64) (ha : a < 64) (hb : b < 64) (hp0 : I m 0 = nI p) (hpb : p ≤ 32749) (hX : G a = vE p D h X) (hY : G b = vE p D h Y) (hd : d + 1 ≤ d') (hp : ∀ J1, post none (St M (rg I m (fu G r (vE p D h ((TI p D h).sub X Y)))) J1)) : Ok K d' 100 [.ref m, .int z1, .int z2, .int z3] (St M (rg I m G) J) post := by
  refine Ok.up (d := d + 1) (post := post) ?_ hd (fun _ _ h => h)
  subst hz1 hz2 hz3
  refine Ok.go (e := me_100) rfl rfl (Nat.le_of_ble_eq_true rfl) hM.c ?_
  have key : ∀ i, i ≤ 8 → Rf K d mc_100 2 (lk [(4, .int (nI i)), (0, .ref m), (1, .int (nI r)), (2, .int (nI a)), (3, .int (nI b))]) [] (St M (rg I m (gN G r i (vE p D h ((TI p D h).sub X Y)))) J) (fun r M1 => rok me_100.2.2.2.1 r = true ∧ post r M1) := by
    refine for_up 8 ?_ (fun i hi ih => ?_)
    · refine Rf.go 100 [2] ?_
      refine And.intro (fun _ => ?_) (fun hb => (ge8n hb).elim)
      exact ⟨rfl, by have := hp J; rw [← rg_8] at this; exact this⟩
    · refine Rf.go 100 [2] ?_
      refine And.intro (fun hb => (ge8 hi hb).elim) (fun _ => ?_)
      refine And.intro hM.c ⟨m + 11, hM.r14, ?_⟩
      refine Or.inr (And.intro ⟨hM.rcg, hM.ing ha hi⟩ ?_)
      refine And.intro hM.c ⟨m + 11, hM.r14, ?_⟩
      refine Or.inr (And.intro ⟨hM.rcg, hM.ing hb hi⟩ ?_)
      refine And.intro hM.c ⟨m + 11, hM.r14, ?_⟩
      have h1 := tV_lt (p := p) (D := D) (x := X) (j := i)
      have h2 := tV_lt (p := p) (D := D) (x := Y) (j := i)
      have es : rg I m (gN G r i (vE p D h ((TI p D h).sub X Y))) (m + 11) (Int32.ofInt 8 * nI a + nI i).toNatClampNeg - rg I m (gN G r i (vE p D h ((TI p D h).sub X Y))) (m + 11) (Int32.ofInt 8 * nI b + nI i).toNatClampNeg = nI (tV p D h X i) - nI (tV p D h Y i) := by
        rw [rd ha hi, rd hb hi, hX, hY]
        rfl
      have ep : rg I m (gN G r i (vE p D h ((TI p D h).sub X Y))) m 0 = nI p := by rw [rg_m]; exact hp0
      refine And.intro (fun hc => ?_) (fun hc => ?_)
      · have hc : Int32.ofInt 0 ≤ rg I m (gN G r i (vE p D h ((TI p D h).sub X Y))) (m + 11) (Int32.ofInt 8 * nI a + nI i).toNatClampNeg - rg I m (gN G r i (vE p D h ((TI p D h).sub X Y))) (m + 11) (Int32.ofInt 8 * nI b + nI i).toNatClampNeg := of_decide_eq_true hc
        rw [es] at hc
        have hc : tV p D h Y i ≤ tV p D h X i := by
          apply Classical.byContradiction
          intro q
          exact absurd (pk_sneg (a := tV p D h X i) (b := tV p D h Y i) (by omega) (by omega)) (Int32.not_lt.mpr hc)
        refine And.intro ⟨hM.rcg, hM.ing hr hi⟩ ?_
        refine Rf.weak [(4, .int (nI (i + 1))), (0, .ref m), (1, .int (nI r)), (2, .int (nI a)), (3, .int (nI b))] ⟨inc1 i, rfl, rfl, rfl, rfl, trivial⟩ (Rf.rgS hr hi ?_ ih)
        refine es.trans ?_
        unfold vE
        rw [tV_sub, pk_sub hc, show tV p D h X i + (p - tV p D h Y i) = (tV p D h X i - tV p D h Y i) + p by omega, Nat.add_mod_right, Nat.mod_eq_of_lt (by omega)]
      · have hc : ¬ Int32.ofInt 0 ≤ rg I m (gN G r i (vE p D h ((TI p D h).sub X Y))) (m + 11) (Int32.ofInt 8 * nI a + nI i).toNatClampNeg - rg I m (gN G r i (vE p D h ((TI p D h).sub X Y))) (m + 11) (Int32.ofInt 8 * nI b + nI i).toNatClampNeg := fun q => hc (decide_eq_true q)
        rw [es] at hc
        have hc : ¬ tV p D h Y i ≤ tV p D h X i := fun q => hc (by rw [pk_sub q]; exact nI_pos' (by omega))
        refine And.intro hM.c ?_
        refine And.intro ⟨hM.rcg, hM.ing hr hi⟩ ?_
        refine Rf.weak [(4, .int (nI (i + 1))), (0, .ref m), (1, .int (nI r)), (2, .int (nI a)), (3, .int (nI b))] ⟨inc1 i, rfl, rfl, rfl, rfl, trivial⟩ (Rf.rgS hr hi ?_ ih)
        refine (show _ = nI (tV p D h X i) - nI (tV p D h Y i) + nI p by rw [← es, ← ep]; rfl).trans ?_
        unfold vE
        rw [tV_sub, Nat.mod_eq_of_lt (by omega)]
        have e : nI (tV p D h X i) - nI (tV p D h Y i) + nI p = nI (tV p D h X i) + (nI p - nI (tV p D h Y i)) := by
          rw [Int32.sub_eq_add_neg, Int32.sub_eq_add_neg, Int32.add_assoc, Int32.add_comm (-nI (tV p D h Y i))]
        rw [e, pk_sub (by omega), nI_add]
  refine Rf.go 100 [2] ?_
  refine Rf.weak [(4, .int (nI 0)), (0, .ref m), (1, .int (nI r)), (2, .int (nI a)), (3, .int (nI b))] ⟨rfl, rfl, rfl, rfl, rfl, trivial⟩ ?_
  have := key 0 (by omega)
  rw [gN_0] at this
  exact this
set_option maxHeartbeats 2000000 in
theorem m_turn [NeZero p] {r a d' : Nat} {z1 z2 : Int32} {X : TR p D h} {post : Option Value → Me → Prop} (hM : MoM M m) (hz1 : z1 = nI r) (hz2 : z2 = nI a) (hr : r < 64) (ha : a < 64) (hp0 : I m 0 = nI p) (hpb : p ≤ 32749) (hX : G a = vE p D h X) (hd : d + 1 ≤ d') (hp : ∀ J1, post none (St M (rg I m (fu G r (vE p D h ((TI p D h).neg X)))) J1)) : Ok K d' 101 [.ref m, .int z1, .int z2] (St M (rg I m G) J) post := by
  refine Ok.up (d := d + 1) (post := post) ?_ hd (fun _ _ h => h)
  subst hz1 hz2
  refine Ok.go (e := me_101) rfl rfl (Nat.le_of_ble_eq_true rfl) hM.c ?_
  have key : ∀ i, i ≤ 8 → Rf K d mc_101 2 (lk [(3, .int (nI i)), (0, .ref m), (1, .int (nI r)), (2, .int (nI a))]) [] (St M (rg I m (gN G r i (vE p D h ((TI p D h).neg X)))) J) (fun r M1 => rok me_101.2.2.2.1 r = true ∧ post r M1) := by
    refine for_up 8 ?_ (fun i hi ih => ?_)
    · refine Rf.go 100 [2] ?_
      refine And.intro (fun _ => ?_) (fun hb => (ge8n hb).elim)
      exact ⟨rfl, by have := hp J; rw [← rg_8] at this; exact this⟩
    · refine Rf.go 100 [2] ?_
      refine And.intro (fun hb => (ge8 hi hb).elim) (fun _ => ?_)
      refine And.intro hM.c ⟨m + 11, hM.r14, ?_⟩
      refine Or.inr (And.intro ⟨hM.rcg, hM.ing ha hi⟩ ?_)
      refine And.intro hM.c ⟨m + 11, hM.r14, ?_⟩
      have h1 := tV_lt (p := p) (D := D) (x := X) (j := i)
      have es : rg I m (gN G r i (vE p D h ((TI p D h).neg X))) (m + 11) (Int32.ofInt 8 * nI a + nI i).toNatClampNeg = nI (tV p D h X i) := by
        rw [rd ha hi, hX]
        rfl
      have ep : rg I m (gN G r i (vE p D h ((TI p D h).neg X))) m 0 = nI p := by rw [rg_m]; exact hp0
      refine And.intro (fun hc => ?_) (fun hc => ?_)
      · have hc : ¬ rg I m (gN G r i (vE p D h ((TI p D h).neg X))) (m + 11) (Int32.ofInt 8 * nI a + nI i).toNatClampNeg = 0 := of_decide_eq_true hc
        rw [es] at hc
        have hc : ¬ tV p D h X i = 0 := fun q => hc (by rw [q]; rfl)
        refine And.intro hM.c ?_
        refine And.intro ⟨hM.rcg, hM.ing hr hi⟩ ?_
        refine Rf.weak [(3, .int (nI (i + 1))), (0, .ref m), (1, .int (nI r)), (2, .int (nI a))] ⟨inc1 i, rfl, rfl, rfl, trivial⟩ (Rf.rgS hr hi ?_ ih)
        refine (show _ = nI p - nI (tV p D h X i) by rw [← es, ← ep]; rfl).trans ?_
        unfold vE
        rw [tV_neg, pk_sub (by omega), Nat.mod_eq_of_lt (by omega)]
      · have hc : rg I m (gN G r i (vE p D h ((TI p D h).neg X))) (m + 11) (Int32.ofInt 8 * nI a + nI i).toNatClampNeg = 0 := Classical.not_not.mp (fun q => hc (decide_eq_true q))
        rw [es] at hc
        have hc : tV p D h X i = 0 := (nI_eq (b := 0) (by omega) (by omega)).mp hc
        refine And.intro ⟨hM.rcg, hM.ing hr hi⟩ ?_
        refine Rf.weak [(3, .int (nI (i + 1))), (0, .ref m), (1, .int (nI r)), (2, .int (nI a))] ⟨inc1 i, rfl, rfl, rfl, trivial⟩ (Rf.rgS hr hi ?_ ih)
        unfold vE
        rw [tV_neg, hc, Nat.sub_zero, Nat.mod_self]
        rfl
  refine Rf.go 100 [2] ?_
  refine Rf.weak [(3, .int (nI 0)), (0, .ref m), (1, .int (nI r)), (2, .int (nI a))] ⟨rfl, rfl, rfl, rfl, trivial⟩ ?_
  have := key 0 (by omega)
  rw [gN_0] at this
  exact this
set_option maxHeartbeats 2000000 in
theorem m_baseAt {r a d' : Nat} {z1 z2 : Int32} {post : Option Value → Me → Prop} (hM : MoM M m) (hz1 : z1 = nI r) (hz2 : z2 = nI a) (hr : r < 64) (ha : a < 3) (hd : d + 1 ≤ d') (hp : ∀ J1, post none (St M (rg I m (fu G r (fun j => I (m + 8) (8 * a + j)))) J1)) : Ok K d' 113 [.ref m, .int z1, .int z2] (St M (rg I m G) J) post := by
  refine Ok.up (d := d + 1) (post := post) ?_ hd (fun _ _ h => h)
  subst hz1 hz2
  refine Ok.go (e := me_113) rfl rfl (Nat.le_of_ble_eq_true rfl) hM.c ?_
  have key : ∀ i, i ≤ 8 → Rf K d mc_113 2 (lk [(3, .int (nI i)), (0, .ref m), (1, .int (nI r)), (2, .int (nI a))]) [] (St M (rg I m (gN G r i (fun j => I (m + 8) (8 * a + j)))) J) (fun r M1 => rok me_113.2.2.2.1 r = true ∧ post r M1) := by
    refine for_up 8 ?_ (fun i hi ih => ?_)
    · refine Rf.go 100 [2] ?_
      refine And.intro (fun _ => ?_) (fun hb => (ge8n hb).elim)
      exact ⟨rfl, by have := hp J; rw [← rg_8] at this; exact this⟩
    · refine Rf.go 100 [2] ?_
      refine And.intro (fun hb => (ge8 hi hb).elim) (fun _ => ?_)
      refine And.intro hM.c ⟨m + 11, hM.r14, ?_⟩
      refine And.intro hM.c ⟨m + 8, hM.r11, ?_⟩
      refine Or.inr (And.intro ⟨hM.ab.1, by rw [show (mH (St M (rg I m (gN G r i (fun j => I (m + 8) (8 * a + j)))) J) (m + 8)).2 = 24 from hM.ab.2, ix8e]; exact inb_n (by omega) (by omega)⟩ ?_)
      refine And.intro ⟨hM.rcg, hM.ing hr hi⟩ ?_
      refine Rf.weak [(3, .int (nI (i + 1))), (0, .ref m), (1, .int (nI r)), (2, .int (nI a))] ⟨inc1 i, rfl, rfl, rfl, trivial⟩ (Rf.rgS hr hi ?_ ih)
      show rg I m _ (m + 8) (Int32.ofInt 8 * nI a + nI i).toNatClampNeg = I (m + 8) (8 * a + i)
      rw [ix8 (by omega) hi, rg_ne (by omega)]
  refine Rf.go 100 [2] ?_
  refine Rf.weak [(3, .int (nI 0)), (0, .ref m), (1, .int (nI r)), (2, .int (nI a))] ⟨rfl, rfl, rfl, rfl, trivial⟩ ?_
  have := key 0 (by omega)
  rw [gN_0] at this
  exact this
theorem ix24e {t : Nat} : Int32.ofInt 24 * nI t + Int32.ofInt 8 * nI k + nI i = nI (24 * t + 8 * k + i) := by rw [show Int32.ofInt 24 = nI 24 from rfl, show Int32.ofInt 8 = nI 8 from rfl, pk_mul, pk_mul, nI_add, nI_add]
set_option maxHeartbeats 2000000 in
theorem m_load {r a k d' : Nat} {z1 z2 z3 : Int32} {post : Option Value → Me → Prop} (hM : MoM M m) (hz1 : z1 = nI r) (hz2 : z2 = nI a) (hz3 : z3 = nI k) (hr : r < 64) (ha : a < 60) (hk : k < 3) (hd : d + 1 ≤ d') (hp : ∀ J1, post none (St M (rg I m (fu G r (fun j => I (m + 7) (24 * a + 8 * k + j)))) J1)) : Ok K d' 120 [.ref m, .int z1, .int z2, .int z3] (St M (rg I m G) J) post := by
  refine Ok.up (d := d + 1) (post := post) ?_ hd (fun _ _ h => h)
  subst hz1 hz2 hz3
  refine Ok.go (e := me_120) rfl rfl (Nat.le_of_ble_eq_true rfl) hM.c ?_
  have key : ∀ i, i ≤ 8 → Rf K d mc_120 2 (lk [(4, .int (nI i)), (0, .ref m), (1, .int (nI r)), (2, .int (nI a)), (3, .int (nI k))]) [] (St M (rg I m (gN G r i (fun j => I (m + 7) (24 * a + 8 * k + j)))) J) (fun r M1 => rok me_120.2.2.2.1 r = true ∧ post r M1) := by
    refine for_up 8 ?_ (fun i hi ih => ?_)
    · refine Rf.go 100 [2] ?_
      refine And.intro (fun _ => ?_) (fun hb => (ge8n hb).elim)
      exact ⟨rfl, by have := hp J; rw [← rg_8] at this; exact this⟩
    · refine Rf.go 100 [2] ?_
      refine And.intro (fun hb => (ge8 hi hb).elim) (fun _ => ?_)
      refine And.intro hM.c ⟨m + 11, hM.r14, ?_⟩
      refine And.intro hM.c ⟨m + 7, hM.r10, ?_⟩
      refine Or.inr (And.intro ⟨hM.av.1, by rw [show (mH (St M (rg I m (gN G r i (fun j => I (m + 7) (24 * a + 8 * k + j)))) J) (m + 7)).2 = 1440 from hM.av.2, ix24e]; exact inb_n (by omega) (by omega)⟩ ?_)
      refine And.intro ⟨hM.rcg, hM.ing hr hi⟩ ?_
      refine Rf.weak [(4, .int (nI (i + 1))), (0, .ref m), (1, .int (nI r)), (2, .int (nI a)), (3, .int (nI k))] ⟨inc1 i, rfl, rfl, rfl, rfl, trivial⟩ (Rf.rgS hr hi ?_ ih)
      show rg I m _ (m + 7) (Int32.ofInt 24 * nI a + Int32.ofInt 8 * nI k + nI i).toNatClampNeg = I (m + 7) (24 * a + 8 * k + i)
      rw [ix24e, nI_clamp (by omega), rg_ne (by omega)]
  refine Rf.go 100 [2] ?_
  refine Rf.weak [(4, .int (nI 0)), (0, .ref m), (1, .int (nI r)), (2, .int (nI a)), (3, .int (nI k))] ⟨rfl, rfl, rfl, rfl, rfl, trivial⟩ ?_
  have := key 0 (by omega)
  rw [gN_0] at this
  exact this
end Mo
