/-! The model's prime, whole -/
section Mp2
variable {K : Ka} {d m p h n k : Nat} {M : Me} {I : Nat → Nat → Int32} {J : Nat → Nat → Int64} {D : Nat → Nat → Nat} {kd : Nat → Nat} {tl : Nat → Nat → Int32} {V : Nat → Nat → Nat → Nat} {g : Nat → Nat} {G : Nat → Nat → Int32} {x : Int32}
/-- what the making anew keeps of the model's cells -/
def Kp (I I1 : Nat → Nat → Int32) (m n rm : Nat) : Prop := (∀ c, m + 1 ≤ c → c ≤ m + 4 → I1 c = I c) ∧ (∀ s, s < n → I1 (m + 5) s = I (m + 5) s) ∧ ((∀ q, q < 1440 → I1 (m + 13) q = I (m + 7) q) ∧ (∀ q, q < 24 → I1 (m + 14) q = I (m + 8) q) ∧ ∀ q, q < 60 → I1 (m + 15) q = I (m + 6) q) ∧ (∀ a, a < m → I1 a = I a) ∧ I1 m 2 = I m 2 ∧ I1 m 21 = nI (rm + 1)
theorem Kp.fx {I1 I2 : Nat → Nat → Int32} {rm : Nat} (hk : Kp I I1 m n rm) (hf : FrX I1 I2 m) : Kp I I2 m n rm := by
  obtain ⟨a, b, ⟨c1, c2, c3⟩, e, f, g⟩ := hk
  have hc : ∀ c, c ≠ m → c ≠ m + 8 → c ≠ m + 9 → c ≠ m + 10 → I2 c = I1 c := hf.1
  exact ⟨fun c h1 h2 => (hc c (by omega) (by omega) (by omega) (by omega)).trans (a c h1 h2), fun s hs => by rw [hc _ (by omega) (by omega) (by omega) (by omega)]; exact b s hs, ⟨fun q hq => by rw [hc _ (by omega) (by omega) (by omega) (by omega)]; exact c1 q hq, fun q hq => by rw [hc _ (by omega) (by omega) (by omega) (by omega)]; exact c2 q hq, fun q hq => by rw [hc _ (by omega) (by omega) (by omega) (by omega)]; exact c3 q hq⟩, fun q hq => (hc q (by omega) (by omega) (by omega) (by omega)).trans (e q hq), (hf.2 2 (by decide) (by decide) (by decide)).trans f, (hf.2 21 (by decide) (by decide) (by decide)).trans g⟩
theorem Kp.p3 {I1 : Nat → Nat → Int32} {rm : Nat} {y : Int32} (hk : Kp I I1 m n rm) : Kp I (u2 I1 m 3 y) m n rm := by
  obtain ⟨a, b, ⟨c1, c2, c3⟩, e, f, g⟩ := hk
  have hc : ∀ c, c ≠ m → u2 I1 m 3 y c = I1 c := fun c h => u2_ne h
  exact ⟨fun c h1 h2 => (hc c (by omega)).trans (a c h1 h2), fun s hs => by rw [hc _ (by omega)]; exact b s hs, ⟨fun q hq => by rw [hc _ (by omega)]; exact c1 q hq, fun q hq => by rw [hc _ (by omega)]; exact c2 q hq, fun q hq => by rw [hc _ (by omega)]; exact c3 q hq⟩, fun q hq => (hc q (by omega)).trans (e q hq), by rw [u2_at, if_neg (by decide)]; exact f, by rw [u2_at, if_neg (by decide)]; exact g⟩
set_option maxHeartbeats 4000000 in
/-- back to the old prime -/
theorem mp_bad {rm : Nat} {t : Nat} {no : Int32} {I1 : Nat → Nat → Int32} {post : Option Value → Me → Prop} [NeZero p] (hM : MoM M m) (hR : MR I m p D h n kd tl V g) (hA : AS p D h n kd tl V g) (hk : Kp I I1 m n rm) (ht : t < 60) (h3 : I1 m 3 = nI (t + 1)) (hno : ¬ no = Int32.ofInt 0) (hp : ∀ I2 J2, MR I2 m p D h n kd tl V g → I2 m 2 = no → I2 m 21 = nI (rm + 1) → (∀ a, a < m → I2 a = I a) → post (some (.int (Int32.ofInt (-20) - nI t))) (St M I2 J2)) : Rf K (d + 3) mc_142 130 (lk [(0, .ref m), (2, .int (nI p)), (3, .int (nI h)), (4, .int (nI n)), (5, .int no)]) [] (St M (rg I1 m G) J) (fun r M1 => rok me_142.2.2.2.1 r = true ∧ post r M1) := by
  obtain ⟨mA, ⟨t1, t2, t3'⟩, mS, mV, mB⟩ := hR
  obtain ⟨ka, kb, ⟨kc1, kc2, kc3⟩, ke, kf, kg⟩ := hk
  have e6 : rg I1 m G m 3 - Int32.ofInt 1 = nI t := by rw [rg_m, h3]; exact nI_pred t
  refine Rf.go 100 [138] ?_
  refine And.intro hM.c ?_
  refine And.intro hM.c ?_
  refine Rf.put ?_
  refine Rf.go 100 [145] ?_
  refine And.intro (fun _ => ?_) (fun w => absurd (decide_eq_true (show ¬ no = 0 from hno)) w)
  refine And.intro hM.c ?_
  refine Rf.put ?_
  refine Rf.go 100 [148] ?_
  refine And.intro hM.c ?_
  refine Rf.put ?_
  generalize hI4 : u2 (u2 (u2 I1 m 3 (nI n)) m 2 no) m 0 (nI p) = I4
  have x : ∀ c, c ≠ m → I4 c = I1 c := fun c hc => by rw [← hI4, u2_ne hc, u2_ne hc, u2_ne hc]
  have x0 : I4 m 0 = nI p := by rw [← hI4, u2_at, if_pos rfl]
  have x2 : I4 m 2 = no := by rw [← hI4, u2_at, if_neg (by decide), u2_at, if_pos rfl]
  have x3 : I4 m 3 = nI n := by rw [← hI4, u2_at, if_neg (by decide), u2_at, if_neg (by decide), u2_at, if_pos rfl]
  have x21 : I4 m 21 = nI (rm + 1) := by rw [← hI4, u2_at, if_neg (by decide), u2_at, if_neg (by decide), u2_at, if_neg (by decide)]; exact kg
  refine Rf.go 100 [150] ?_
  refine Rf.weak [(7, .int (nI 0)), (0, .ref m), (3, .int (nI h)), (6, .int (nI t))] ⟨rfl, rfl, rfl, congrArg (fun z => some (Value.int z)) e6, trivial⟩ (q_4 hM ?_)
  refine Rf.go 100 [165] ?_
  refine Rf.weak [(7, .int (nI 0)), (0, .ref m), (3, .int (nI h)), (6, .int (nI t))] ⟨rfl, rfl, rfl, rfl, trivial⟩ (q_5 hM ?_)
  refine Rf.go 100 [180] ?_
  refine Rf.weak [(7, .int (nI 0)), (0, .ref m), (3, .int (nI h)), (6, .int (nI t))] ⟨rfl, rfl, rfl, rfl, trivial⟩ (q_6 hM (fun q hq => ?_) ?_)
  · rw [cpy_n (by omega), cpy_n (by omega), x _ (by omega), kc3 q hq]
    exact mB q hq
  generalize hI5 : cpy (cpy (cpy I4 (m + 7) (m + 13) 1440) (m + 8) (m + 14) 24) (m + 6) (m + 15) 60 = I5
  have y : ∀ c, c ≠ m + 6 → c ≠ m + 7 → c ≠ m + 8 → I5 c = I4 c := fun c h1 h2 h4 => by rw [← hI5, cpy_n h1, cpy_n h4, cpy_n h2]
  have y6 : ∀ q, q < 60 → I5 (m + 6) q = I (m + 6) q := fun q hq => by rw [← hI5, cpy_e, if_pos hq, cpy_n (by omega), cpy_n (by omega), x _ (by omega)]; exact kc3 q hq
  have y8 : ∀ q, q < 24 → I5 (m + 8) q = I (m + 8) q := fun q hq => by rw [← hI5, cpy_n (by omega), cpy_e, if_pos hq, cpy_n (by omega), x _ (by omega)]; exact kc2 q hq
  have y7 : ∀ q, q < 1440 → I5 (m + 7) q = I (m + 7) q := fun q hq => by rw [← hI5, cpy_n (by omega), cpy_n (by omega), cpy_e, if_pos hq, x _ (by omega)]; exact kc1 q hq
  have ym : I5 m = I4 m := y m (by omega) (by omega) (by omega)
  have hh3 := mA.1.2.2.1
  refine Rf.go 100 [] ?_
  refine m_rebuild (d := d) (p := p) (D := D) (h := h) hM (by rw [ym]; exact x0) mA.1.2.2.2.1 mA.2.2.2.1 mA.2.2.2.2 rfl hh3 mA.2.2.1 hA.2.2.2.2.2 (fun i hi j hj => by rw [y8 _ (by omega)]; exact mA.base hA.2.2.2.2.2 i hi j hj) (by omega) (fun I6 G6 J6 hA6 f6 c6 m6 => ?_)
  have z : ∀ c, m + 1 ≤ c → c ≤ m + 7 → rg I6 m G6 c = I5 c := fun c h1 h2 => (rg_ne (by omega)).trans (c6 c (by omega) (by omega) (by omega) (by omega))
  refine ⟨rfl, hp (rg I6 m G6) J6 ⟨hA6.rg, ⟨?_, t2, fun s hs => ?_⟩, fun s hs => ?_, fun s hs i hi => ⟨fun j hj => ?_, (mV s hs i hi).2⟩, fun q hq => ?_⟩ ?_ ?_ (fun q hq => ?_)⟩
  · rw [rg_m, m6 3 (by decide), ym]; exact x3
  · rw [z _ (by omega) (by omega), y _ (by omega) (by omega) (by omega), x _ (by omega), kb s hs]
    exact t3' s hs
  · rw [z (m + 1) (by omega) (by omega), z (m + 2) (by omega) (by omega), z (m + 3) (by omega) (by omega), z (m + 4) (by omega) (by omega), z (m + 6) (by omega) (by omega), y6 s (by omega), y (m + 1) (by omega) (by omega) (by omega), y (m + 2) (by omega) (by omega) (by omega), y (m + 3) (by omega) (by omega) (by omega), y (m + 4) (by omega) (by omega) (by omega), x (m + 1) (by omega), x (m + 2) (by omega), x (m + 3) (by omega), x (m + 4) (by omega), ka (m + 1) (by omega) (by omega), ka (m + 2) (by omega) (by omega), ka (m + 3) (by omega) (by omega), ka (m + 4) (by omega) (by omega)]
    exact mS s hs
  · rw [z _ (by omega) (by omega), y7 _ (by omega)]
    exact (mV s hs i hi).1 j hj
  · rw [z _ (by omega) (by omega), y6 q hq]
    exact mB q hq
  · rw [rg_m, m6 2 (by decide), ym]; exact x2
  · rw [rg_m, m6 21 (by decide), ym]; exact x21
  · rw [rg_ne (by omega), c6 q (by omega) (by omega) (by omega) (by omega), y q (by omega) (by omega) (by omega), x q (by omega)]
    exact ke q hq
end Mp2
