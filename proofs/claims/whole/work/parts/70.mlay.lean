/-! The model's lay, step -/
def s7 (I : Nat → Nat → Int32) (m : Nat) (f : Nat → Int32) : Nat → Nat → Int32 := fun b => if b = m + 7 then f else I b
def wv (so : Nat) (G : Nat → Nat → Int32) (j : Nat) : Int32 := if j / 8 < szs so then G (j / 8) (j % 8) else Int32.ofInt 0
section Ml
variable {K : Ka} {d m p h n k t so : Nat} {M : Me} {I : Nat → Nat → Int32} {J : Nat → Nat → Int64} {D : Nat → Nat → Nat} {G : Nat → Nat → Int32} {f : Nat → Int32}
theorem s7_7 : s7 I m f (m + 7) = f := if_pos rfl
theorem s7_n {b : Nat} (h : b ≠ m + 7) : s7 I m f b = I b := if_neg h
theorem s7_u {q : Nat} {x : Int32} : u2 (s7 I m f) (m + 7) q x = s7 I m (va_up f q x) := by
  funext c
  unfold u2
  by_cases e : c = m + 7
  · rw [if_pos e, s7_7, e, s7_7]
  · rw [if_neg e, s7_n e, s7_n e]
theorem s7_self : s7 I m (I (m + 7)) = I := by
  funext c
  by_cases e : c = m + 7
  · rw [e, s7_7]
  · rw [s7_n e]
theorem rg_self : rg I m (fun r j => I (m + 11) (8 * r + j)) = I := by
  funext b
  unfold rg
  split
  · next e =>
    rw [e]
    funext q
    show I (m + 11) (8 * (q / 8) + q % 8) = I (m + 11) q
    rw [Nat.div_add_mod]
  · rfl
theorem ix0 {i : Nat} : Int32.ofInt 0 + nI i = nI i := by rw [show Int32.ofInt 0 = nI 0 from rfl, nI_add, Nat.zero_add]
set_option maxHeartbeats 2000000 in
theorem m_lay {d' : Nat} {z : Int32} {post : Option Value → Me → Prop} (hM : MoM M m) (hz : z = nI t) (ht : t < 60) (h16 : I m 16 = nI so) (hso : so < 4) (h17 : I m 17 = 0 ∨ I m 17 = 1) (hd : d + 2 ≤ d') (hp : ∀ I1, I1 (m + 5) t = nI so → I1 (m + 6) t = I m 17 → (∀ s, s ≠ t → I1 (m + 5) s = I (m + 5) s ∧ I1 (m + 6) s = I (m + 6) s) → (∀ i, i < 3 → ∀ j, j < 8 → I1 (m + 7) (24 * t + 8 * i + j) = if i < szs so then G i j else Int32.ofInt 0) → (∀ q, (q < 24 * t ∨ 24 * t + 24 ≤ q) → I1 (m + 7) q = I (m + 7) q) → (∀ c, c ≠ m + 5 → c ≠ m + 6 → c ≠ m + 7 → I1 c = I c) → post none (St M (rg I1 m G) J)) : Ok K d' 138 [.ref m, .int z] (St M (rg I m G) J) post := by
  refine Ok.up (d := d + 2) (post := post) ?_ hd (fun _ _ h => h)
  subst hz
  refine Ok.go (e := me_138) rfl rfl (Nat.le_of_ble_eq_true rfl) hM.c ?_
  generalize hpost : (fun (r : Option Value) (M1 : Me) => rok me_138.2.2.2.1 r = true ∧ post r M1) = pst9
  generalize hI2 : u2 (u2 I (m + 5) t (nI so)) (m + 6) t (I m 17) = I2
  have g16 : I2 m 16 = nI so := by rw [← hI2, u2_ne (by omega), u2_ne (by omega)]; exact h16
  have g7 : I2 (m + 7) = I (m + 7) := by rw [← hI2, u2_ne (by omega), u2_ne (by omega)]
  have key : ∀ i, i ≤ 24 → Rf K (d + 1) mc_138 14 (lk [(2, .int (nI i)), (0, .ref m), (1, .int (nI t))]) [] (St M (rg (s7 I2 m (fun q => if 24 * t ≤ q ∧ q < 24 * t + i then wv so G (q - 24 * t) else I (m + 7) q)) m G) J) pst9 := by
    refine for_up 24 ?_ (fun i hi ih => ?_)
    · refine Rf.go 100 [14] ?_
      refine And.intro (fun _ => ?_) (fun q => absurd (by decide) q)
      rw [← hpost]
      refine ⟨rfl, hp _ ?_ ?_ (fun s hs => ⟨?_, ?_⟩) (fun i hi j hj => ?_) (fun q hq => ?_) (fun c c1 c2 c3 => ?_)⟩
      · rw [s7_n (by omega), ← hI2, u2_ne (by omega), u2_at, if_pos rfl]
      · rw [s7_n (by omega), ← hI2, u2_at, if_pos rfl]
      · rw [s7_n (by omega), ← hI2, u2_ne (by omega), u2_at, if_neg hs]
      · rw [s7_n (by omega), ← hI2, u2_at, if_neg hs, u2_ne (by omega)]
      · rw [s7_7]
        show (if 24 * t ≤ 24 * t + 8 * i + j ∧ 24 * t + 8 * i + j < 24 * t + 24 then wv so G (24 * t + 8 * i + j - 24 * t) else I (m + 7) (24 * t + 8 * i + j)) = _
        rw [if_pos (by omega), show 24 * t + 8 * i + j - 24 * t = 8 * i + j by omega]
        unfold wv
        rw [show (8 * i + j) / 8 = i by omega, show (8 * i + j) % 8 = j by omega]
      · rw [s7_7]
        exact if_neg (by omega)
      · rw [s7_n c3, ← hI2, u2_ne c2, u2_ne c1]
    · generalize hf : (fun q => if 24 * t ≤ q ∧ q < 24 * t + i then wv so G (q - 24 * t) else I (m + 7) q : Nat → Int32) = fi
      have e8 : nI i / Int32.ofInt 8 = nI (i / 8) := pk_div (d := 8) (by omega) (by decide) (by decide)
      have es : rg (s7 I2 m fi) m G m 16 = nI so := by rw [rg_m, s7_n (by omega)]; exact g16
      have hz3 := szs_le so
      have put : ∀ x, x = wv so G i → Rf K (d + 1) mc_138 14 (lk [(2, .int (nI (i + 1))), (0, .ref m), (1, .int (nI t))]) [] (St M (u2 (rg (s7 I2 m fi) m G) (m + 7) (Int32.ofInt 24 * nI t + nI i).toNatClampNeg x) J) pst9 := by
        intro x hx
        have e : u2 (rg (s7 I2 m fi) m G) (m + 7) (Int32.ofInt 24 * nI t + nI i).toNatClampNeg x = rg (s7 I2 m (fun q => if 24 * t ≤ q ∧ q < 24 * t + (i + 1) then wv so G (q - 24 * t) else I (m + 7) q)) m G := by
          rw [ix24f, nI_clamp (by omega), rg_u2 (by omega), s7_u]
          congr 1
          congr 1
          funext q
          rw [va_i, ← hf]
          dsimp only
          by_cases c1 : q = 24 * t + i
          · rw [if_pos c1, if_pos (by omega), hx, c1, Nat.add_sub_cancel_left]
          · rw [if_neg c1]
            by_cases c2 : 24 * t ≤ q ∧ q < 24 * t + i
            · rw [if_pos c2, if_pos (by omega)]
            · rw [if_neg c2, if_neg (by omega)]
        rw [e]
        exact ih
      have iv : inb (Int32.ofInt 24 * nI t + nI i) (mH M (m + 7)).2 = true := by
        rw [ix24f, hM.av.2]
        exact inb_n (by omega) (by omega)
      refine Rf.go 100 [14] ?_
      refine And.intro (fun q => absurd ((geN (n := 24) (by omega) (by decide)).mp q) (by omega)) (fun _ => ?_)
      refine And.intro hM.c ⟨m + 7, hM.r10, ?_⟩
      refine And.intro (by decide) ?_
      refine And.intro hM.c ?_
      refine m_sizeOf (d := d) es hso (by omega) ?_
      refine And.intro (fun q => ?_) (fun q => ?_)
      · have q : cmpI .ge (nI i / Int32.ofInt 8) (nI (szs so)) = true := q
        rw [e8, geN (by omega) (by omega)] at q
        refine And.intro ⟨hM.av.1, iv⟩ ?_
        refine Rf.weak [(2, .int (nI (i + 1))), (0, .ref m), (1, .int (nI t))] ⟨inc1 i, rfl, rfl, trivial⟩ (put _ ?_)
        unfold wv
        rw [if_neg (by omega)]
      · have q : ¬ cmpI .ge (nI i / Int32.ofInt 8) (nI (szs so)) = true := q
        rw [e8, geN (by omega) (by omega)] at q
        refine And.intro hM.c ⟨m + 11, hM.r14, ?_⟩
        refine Or.inr (And.intro ⟨hM.rcg, ?_⟩ ?_)
        · show inb (Int32.ofInt 0 + nI i) (mH M (m + 11)).2 = true
          rw [ix0, (hM.a512 (a := m + 11) (by omega)).2]
          exact inb_n (by omega) (by omega)
        refine And.intro ⟨hM.av.1, iv⟩ ?_
        refine Rf.weak [(2, .int (nI (i + 1))), (0, .ref m), (1, .int (nI t))] ⟨inc1 i, rfl, rfl, trivial⟩ (put _ ?_)
        show rg (s7 I2 m fi) m G (m + 11) (Int32.ofInt 0 + nI i).toNatClampNeg = _
        rw [ix0, nI_clamp (by omega)]
        unfold wv rg
        rw [if_pos rfl, if_pos (by omega)]
  refine Rf.go 100 [14] ?_
  refine And.intro hM.c ⟨m + 5, hM.r8, ?_⟩
  refine And.intro hM.c ?_
  refine And.intro ⟨(hM.a60 (a := m + 5) (by omega)).1, inb60 (a := 0) hM ht⟩ ?_
  refine And.intro hM.c ⟨m + 6, hM.r9, ?_⟩
  refine And.intro hM.c ?_
  have e17 : u2 (rg I m G) (m + 5) (nI t).toNatClampNeg (rg I m G m 16) m 17 = I m 17 := by rw [u2_ne (by omega), rg_m]
  refine And.intro ⟨hM.ag.1, by show inb (nI t) (mH M (m + 6)).2 = true; rw [hM.ag.2]; exact inb_n ht (by omega), by show u2 (rg I m G) (m + 5) (nI t).toNatClampNeg (rg I m G m 16) m 17 = 0 ∨ u2 (rg I m G) (m + 5) (nI t).toNatClampNeg (rg I m G m 16) m 17 = 1; rw [e17]; exact h17⟩ ?_
  have st := key 0 (Nat.zero_le _)
  have ef : (fun q => if 24 * t ≤ q ∧ q < 24 * t + 0 then wv so G (q - 24 * t) else I (m + 7) q : Nat → Int32) = I2 (m + 7) := by
    rw [g7]
    exact funext (fun q => if_neg (by omega))
  rw [ef, s7_self] at st
  have ew : u2 (u2 (rg I m G) (m + 5) (nI t).toNatClampNeg (rg I m G m 16)) (m + 6) (nI t).toNatClampNeg (u2 (rg I m G) (m + 5) (nI t).toNatClampNeg (rg I m G m 16) m 17) = rg I2 m G := by
    rw [e17, rg_m, h16, nI_clamp (by omega), rg_u2 (by omega), rg_u2 (by omega), hI2]
  rw [← ew] at st
  exact Rf.weak [(2, .int (nI 0)), (0, .ref m), (1, .int (nI t))] ⟨rfl, rfl, rfl, trivial⟩ st
end Ml
