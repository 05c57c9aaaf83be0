/-! The model makes what mkF says; what mkF keeps -/
section N6
variable {K : Ka} {d m p h : Nat} {M : Me} {I : Nat → Nat → Int32} {J : Nat → Nat → Int64} {D : Nat → Nat → Nat} {G : Nat → Nat → Int32} {V : Nat → Nat → Nat → Nat} {sr : Nat → Nat}
/-- a line told plainly -/
def LnOk (u v : Nat → Nat) : Prop := v = un 0 ∨ v = (fun _ => 0) ∧ u = un 0
/-- the model's rows of the first n things -/
def HVm (I : Nat → Nat → Int32) (m p h n : Nat) (sr : Nat → Nat) (V : Nat → Nat → Nat → Nat) : Prop := ∀ s, s < n → ∀ i, i < 3 → (∀ j, j < 8 → I (m + 7) (24 * s + 8 * i + j) = nI (V s i j)) ∧ vOk p h (V s i) ∧ (szs (sr s) ≤ i → V s i = fun _ => 0)
theorem HVm.v [NeZero p] {n s i : Nat} (hv : HVm I m p h n sr V) (hs : s < n) (hi : i < 3) : ∀ j, j < 8 → I (m + 7) (24 * s + 8 * i + j) = vE p D h (oV p D h (V s i)) j := fun j hj => ((hv s hs i hi).1 j hj).trans (congrArg nI (congrFun ((hv s hs i hi).2.1.tv (D := D)) j).symm)
theorem oV_un0 [NeZero p] : oV p D h (un 0) = ((TI p D h).ofNat 1).ofNat := oV_one (p := p) (D := D) h
theorem oV_nul [NeZero p] : oV p D h (fun _ => 0) = ((TI p D h).ofNat 0).ofNat := oV_zero h
theorem crI {R : Type} [Lean.Grind.CommRing R] (h1 : ¬ (1 : R) = 0) {a b c e : R} (hl : b = 1 ∨ b = 0 ∧ a = 1) (hm : e = 1 ∨ e = 0 ∧ c = 1) : a * e - b * c = 0 ↔ (a = c ∧ b = e) := by
  rcases hl with rfl | ⟨rfl, rfl⟩
  · rcases hm with rfl | ⟨rfl, rfl⟩
    · exact ⟨fun q => ⟨by grind, rfl⟩, fun q => by rw [q.1]; grind⟩
    · exact ⟨fun q => absurd ((show (1 : R) = a * 0 - (a * 0 - 1 * 1) by grind).trans ((congrArg (fun w => a * 0 - w) q).trans (show a * 0 - 0 = (0 : R) by grind))) h1, fun q => absurd q.2 h1⟩
  · rcases hm with rfl | ⟨rfl, rfl⟩
    · exact ⟨fun q => absurd ((show (1 : R) = (1 * 1 - 0 * c) + 0 * c by grind).trans ((congrArg (fun w => w + 0 * c) q).trans (show (0 : R) + 0 * c = 0 by grind))) h1, fun q => absurd q.2.symm h1⟩
    · exact ⟨fun _ => ⟨rfl, rfl⟩, fun _ => by grind⟩
theorem LnOk.el [NeZero p] {u v : Nat → Nat} (hl : LnOk u v) : oV p D h v = ((TI p D h).ofNat 1).ofNat ∨ oV p D h v = ((TI p D h).ofNat 0).ofNat ∧ oV p D h u = ((TI p D h).ofNat 1).ofNat := by
  rcases hl with rfl | ⟨rfl, rfl⟩
  · exact Or.inl oV_un0
  · exact Or.inr ⟨oV_nul, oV_un0⟩
theorem LnOk.cr [NeZero p] {u v x y : Nat → Nat} (hp : Pr p) (hodd : p % 2 = 1) (hD : tOk p D h) (hl : LnOk u v) (hm : LnOk x y) : (TI p D h).sub ((TI p D h).mul (oV p D h u) (oV p D h y)) ((TI p D h).mul (oV p D h v) (oV p D h x)) = ((TI p D h).ofNat 0).ofNat ↔ (oV p D h u = oV p D h x ∧ oV p D h v = oV p D h y) :=
  @crI (TR p D h) (TI p D h) (@Fl.ne (TR p D h) (TI p D h) p (2 ^ h) (tw_Fl hp hodd h hD)) _ _ _ _ hl.el hm.el
set_option maxHeartbeats 4000000 in
theorem makeM_ok [NeZero p] {t k a b c d' : Nat} {zk z w1 w2 : Int32} {kd : Nat → Nat} {post : Option Value → Me → Prop} (hM : MoM M m) (hA : MoA I m p h D) (ht : t ≤ 60) (hv : HVm I m p h t (fun s => srt (kd s)) V) (hsr : ∀ s, s < t → I (m + 5) s = nI (srt (kd s))) (hln : ∀ s, s < t → srt (kd s) = 2 → LnOk (V s 0) (V s 1)) (hk : zk = nI k) (ea : k ≠ 0 → z = nI a) (eb : k ≠ 0 → k ≠ 5 → w1 = nI b) (ec : k = 9 ∨ k = 12 → w2 = nI c) (hAg : Ag (fun s => srt (kd s)) t k a b c) (hd : d + 13 ≤ d') (hp : ∀ I1 G1 J1, OutM I I1 G1 m p h (szs (srt k)) (nI (srt k)) (mkF p D h V (fun s => srt (kd s)) k z a b c) → post (some (.int (mkF p D h V (fun s => srt (kd s)) k z a b c).1)) (St M (rg I1 m G1) J1)) : Ok K d' 130 [.ref m, .int zk, .int z, .int w1, .int w2] (St M (rg I m G) J) post := by
  subst hk
  rcases hAg with rfl | ⟨hk, ⟨ha, hsa⟩, hb, hsb⟩ | ⟨rfl, ha, hsa⟩ | ⟨hk, ⟨ha, hsa⟩, hb, hsb⟩ | ⟨rfl, ⟨ha, hsa⟩, ⟨hb, hsb⟩, hc, hsc⟩ | ⟨hk, ⟨ha, hsa⟩, hb, hsb⟩ | ⟨rfl, ⟨ha, hsa⟩, ⟨hb, hsb⟩, hc⟩ | ⟨rfl, ⟨ha, hsa⟩, hb⟩
  · exact M130_0 (d := d) hM hA rfl hd hp
  · rcases hk with rfl | rfl | rfl | rfl | rfl
    · have ea := ea (by decide)
      have eb := eb (by decide) (by decide)
      subst ea eb
      exact M130_1 (d := d) hM hA rfl rfl rfl (by omega) (by omega) (hv.v (D := D) (s := a) (i := 0) ha (by decide)) (hv.v (D := D) (s := b) (i := 0) hb (by decide)) hd hp
    · have ea := ea (by decide)
      have eb := eb (by decide) (by decide)
      subst ea eb
      exact M130_2 (d := d) hM hA rfl rfl rfl (by omega) (by omega) (hv.v (D := D) (s := a) (i := 0) ha (by decide)) (hv.v (D := D) (s := b) (i := 0) hb (by decide)) hd hp
    · have ea := ea (by decide)
      have eb := eb (by decide) (by decide)
      subst ea eb
      exact M130_3 (d := d) hM hA rfl rfl rfl (by omega) (by omega) (hv.v (D := D) (s := a) (i := 0) ha (by decide)) (hv.v (D := D) (s := b) (i := 0) hb (by decide)) hd hp
    · have ea := ea (by decide)
      have eb := eb (by decide) (by decide)
      subst ea eb
      exact M130_4 (d := d) hM hA rfl rfl rfl (by omega) (by omega) (hv.v (D := D) (s := a) (i := 0) ha (by decide)) (hv.v (D := D) (s := b) (i := 0) hb (by decide)) hd hp
    · have ea := ea (by decide)
      have eb := eb (by decide) (by decide)
      subst ea eb
      exact M130_6 (d := d) hM hA rfl rfl rfl (by omega) (by omega) (hv.v (D := D) (s := a) (i := 0) ha (by decide)) (hv.v (D := D) (s := b) (i := 0) hb (by decide)) hd hp
  · have ea := ea (by decide)
    subst ea
    exact M130_5 (d := d) hM hA rfl rfl (by omega) (hv.v (D := D) (s := a) (i := 0) ha (by decide)) hd hp
  · rcases hk with rfl | rfl
    · have ea := ea (by decide)
      have eb := eb (by decide) (by decide)
      subst ea eb
      refine M130_7 (d := d) hM hA rfl rfl rfl (by omega) (by omega) (hv.v (D := D) (s := a) (i := 0) ha (by decide)) (hv.v (D := D) (s := a) (i := 1) ha (by decide)) (hv.v (D := D) (s := a) (i := 2) ha (by decide)) (hv.v (D := D) (s := b) (i := 0) hb (by decide)) (hv.v (D := D) (s := b) (i := 1) hb (by decide)) (hv.v (D := D) (s := b) (i := 2) hb (by decide)) ?_ ?_ hd hp
      · rw [hsr a ha, hsr b hb]
        exact congrArg nI (hsa.trans hsb.symm)
      · rw [(hv a ha 2 (by decide)).2.2 (Nat.le_of_eq (congrArg szs hsa)), (hv b hb 2 (by decide)).2.2 (Nat.le_of_eq (congrArg szs hsb))]
    · have ea := ea (by decide)
      have eb := eb (by decide) (by decide)
      subst ea eb
      exact M130_8 (d := d) hM hA rfl rfl rfl (by omega) (by omega) (hv.v (D := D) (s := a) (i := 0) ha (by decide)) (hv.v (D := D) (s := a) (i := 1) ha (by decide)) (hv.v (D := D) (s := b) (i := 0) hb (by decide)) (hv.v (D := D) (s := b) (i := 1) hb (by decide)) hd hp
  · have ea := ea (by decide)
    have eb := eb (by decide) (by decide)
    have ec := ec (by decide)
    subst ea eb ec
    exact M130_9 (d := d) hM hA rfl rfl rfl rfl (by omega) (by omega) (by omega) (hv.v (D := D) (s := a) (i := 0) ha (by decide)) (hv.v (D := D) (s := a) (i := 1) ha (by decide)) (hv.v (D := D) (s := b) (i := 0) hb (by decide)) (hv.v (D := D) (s := b) (i := 1) hb (by decide)) (hv.v (D := D) (s := c) (i := 0) hc (by decide)) (hv.v (D := D) (s := c) (i := 1) hc (by decide)) hd hp
  · rcases hk with rfl | rfl
    · have ea := ea (by decide)
      have eb := eb (by decide) (by decide)
      subst ea eb
      exact M130_10 (d := d) hM hA rfl rfl rfl (by omega) (by omega) (hv.v (D := D) (s := a) (i := 0) ha (by decide)) (hv.v (D := D) (s := a) (i := 1) ha (by decide)) (hv.v (D := D) (s := b) (i := 0) hb (by decide)) (hv.v (D := D) (s := b) (i := 1) hb (by decide)) hd hp
    · have ea := ea (by decide)
      have eb := eb (by decide) (by decide)
      subst ea eb
      exact M130_11 (d := d) hM hA rfl rfl rfl (by omega) (by omega) (hv.v (D := D) (s := a) (i := 0) ha (by decide)) (hv.v (D := D) (s := a) (i := 1) ha (by decide)) (hv.v (D := D) (s := b) (i := 0) hb (by decide)) (hv.v (D := D) (s := b) (i := 1) hb (by decide)) hd hp
  · have ea := ea (by decide)
    have eb := eb (by decide) (by decide)
    have ec := ec (by decide)
    subst ea eb ec
    have sa := hsr a ha
    have sb := hsr b hb
    rcases hsa with hsa | hsa
    · rcases hsb with hsb | hsb
      · have em : mkF p D h V (fun s => srt (kd s)) 12 (nI a) a b c = mlF p D h (oV p D h (V a 0)) (oV p D h (V a 1)) (oV p D h (V a 2)) (oV p D h (V b 0)) (oV p D h (V b 1)) (oV p D h (V b 2)) c := (if_pos hsa).trans (if_pos hsb)
        rw [em] at hp
        rcases (show c = 0 ∨ c = 1 by omega) with rfl | rfl
        · exact M130_12_220 (d := d) (g := a) (k := b) hM hA rfl rfl rfl rfl (by omega) (by omega) (hv.v (D := D) (s := a) (i := 0) ha (by decide)) (hv.v (D := D) (s := a) (i := 1) ha (by decide)) (hv.v (D := D) (s := a) (i := 2) ha (by decide)) (hv.v (D := D) (s := b) (i := 0) hb (by decide)) (hv.v (D := D) (s := b) (i := 1) hb (by decide)) (hv.v (D := D) (s := b) (i := 2) hb (by decide)) (sa.trans (congrArg nI hsa)) (sb.trans (congrArg nI hsb)) ((hln a ha hsa).cr hA.2.2.2.1 hA.2.2.2.2 hA.2.2.1 (hln b hb hsb)) hd hp
        · exact M130_12_221 (d := d) (g := a) (k := b) hM hA rfl rfl rfl rfl (by omega) (by omega) (hv.v (D := D) (s := a) (i := 0) ha (by decide)) (hv.v (D := D) (s := a) (i := 1) ha (by decide)) (hv.v (D := D) (s := a) (i := 2) ha (by decide)) (hv.v (D := D) (s := b) (i := 0) hb (by decide)) (hv.v (D := D) (s := b) (i := 1) hb (by decide)) (hv.v (D := D) (s := b) (i := 2) hb (by decide)) (sa.trans (congrArg nI hsa)) (sb.trans (congrArg nI hsb)) ((hln a ha hsa).cr hA.2.2.2.1 hA.2.2.2.2 hA.2.2.1 (hln b hb hsb)) hd hp
      · have em : mkF p D h V (fun s => srt (kd s)) 12 (nI a) a b c = mtF p D h (oV p D h (V a 0)) (oV p D h (V a 1)) (oV p D h (V a 2)) (oV p D h (V b 0)) (oV p D h (V b 1)) (oV p D h (V b 2)) c := (if_pos hsa).trans (if_neg (fun q => absurd (hsb.symm.trans q) (by decide)))
        rw [em] at hp
        rcases (show c = 0 ∨ c = 1 by omega) with rfl | rfl
        · exact M130_12_230 (d := d) (g := a) (k := b) hM hA rfl rfl rfl rfl (by omega) (by omega) (hv.v (D := D) (s := a) (i := 0) ha (by decide)) (hv.v (D := D) (s := a) (i := 1) ha (by decide)) (hv.v (D := D) (s := a) (i := 2) ha (by decide)) (hv.v (D := D) (s := b) (i := 0) hb (by decide)) (hv.v (D := D) (s := b) (i := 1) hb (by decide)) (hv.v (D := D) (s := b) (i := 2) hb (by decide)) (sa.trans (congrArg nI hsa)) (sb.trans (congrArg nI hsb)) hd hp
        · exact M130_12_231 (d := d) (g := a) (k := b) hM hA rfl rfl rfl rfl (by omega) (by omega) (hv.v (D := D) (s := a) (i := 0) ha (by decide)) (hv.v (D := D) (s := a) (i := 1) ha (by decide)) (hv.v (D := D) (s := a) (i := 2) ha (by decide)) (hv.v (D := D) (s := b) (i := 0) hb (by decide)) (hv.v (D := D) (s := b) (i := 1) hb (by decide)) (hv.v (D := D) (s := b) (i := 2) hb (by decide)) (sa.trans (congrArg nI hsa)) (sb.trans (congrArg nI hsb)) hd hp
    · rcases hsb with hsb | hsb
      · have em : mkF p D h V (fun s => srt (kd s)) 12 (nI a) a b c = mtF p D h (oV p D h (V b 0)) (oV p D h (V b 1)) (oV p D h (V b 2)) (oV p D h (V a 0)) (oV p D h (V a 1)) (oV p D h (V a 2)) c := (if_neg (fun q => absurd (hsa.symm.trans q) (by decide))).trans (if_pos hsb)
        rw [em] at hp
        rcases (show c = 0 ∨ c = 1 by omega) with rfl | rfl
        · exact M130_12_320 (d := d) (g := a) (k := b) hM hA rfl rfl rfl rfl (by omega) (by omega) (hv.v (D := D) (s := a) (i := 0) ha (by decide)) (hv.v (D := D) (s := a) (i := 1) ha (by decide)) (hv.v (D := D) (s := a) (i := 2) ha (by decide)) (hv.v (D := D) (s := b) (i := 0) hb (by decide)) (hv.v (D := D) (s := b) (i := 1) hb (by decide)) (hv.v (D := D) (s := b) (i := 2) hb (by decide)) (sa.trans (congrArg nI hsa)) (sb.trans (congrArg nI hsb)) hd hp
        · exact M130_12_321 (d := d) (g := a) (k := b) hM hA rfl rfl rfl rfl (by omega) (by omega) (hv.v (D := D) (s := a) (i := 0) ha (by decide)) (hv.v (D := D) (s := a) (i := 1) ha (by decide)) (hv.v (D := D) (s := a) (i := 2) ha (by decide)) (hv.v (D := D) (s := b) (i := 0) hb (by decide)) (hv.v (D := D) (s := b) (i := 1) hb (by decide)) (hv.v (D := D) (s := b) (i := 2) hb (by decide)) (sa.trans (congrArg nI hsa)) (sb.trans (congrArg nI hsb)) hd hp
      · have em : mkF p D h V (fun s => srt (kd s)) 12 (nI a) a b c = ccF p D h (oV p D h (V a 0)) (oV p D h (V a 1)) (oV p D h (V a 2)) (oV p D h (V b 0)) (oV p D h (V b 1)) (oV p D h (V b 2)) c := (if_neg (fun q => absurd (hsa.symm.trans q) (by decide))).trans (if_neg (fun q => absurd (hsb.symm.trans q) (by decide)))
        rw [em] at hp
        rcases (show c = 0 ∨ c = 1 by omega) with rfl | rfl
        · exact M130_12_330 (d := d) (g := a) (k := b) hM hA rfl rfl rfl rfl (by omega) (by omega) (hv.v (D := D) (s := a) (i := 0) ha (by decide)) (hv.v (D := D) (s := a) (i := 1) ha (by decide)) (hv.v (D := D) (s := a) (i := 2) ha (by decide)) (hv.v (D := D) (s := b) (i := 0) hb (by decide)) (hv.v (D := D) (s := b) (i := 1) hb (by decide)) (hv.v (D := D) (s := b) (i := 2) hb (by decide)) (sa.trans (congrArg nI hsa)) (sb.trans (congrArg nI hsb)) hd hp
        · exact M130_12_331 (d := d) (g := a) (k := b) hM hA rfl rfl rfl rfl (by omega) (by omega) (hv.v (D := D) (s := a) (i := 0) ha (by decide)) (hv.v (D := D) (s := a) (i := 1) ha (by decide)) (hv.v (D := D) (s := a) (i := 2) ha (by decide)) (hv.v (D := D) (s := b) (i := 0) hb (by decide)) (hv.v (D := D) (s := b) (i := 1) hb (by decide)) (hv.v (D := D) (s := b) (i := 2) hb (by decide)) (sa.trans (congrArg nI hsa)) (sb.trans (congrArg nI hsb)) hd hp
  · have ea := ea (by decide)
    have eb := eb (by decide) (by decide)
    subst ea eb
    have hb3 : b < 3 := Nat.lt_of_lt_of_le hb (szs_le _)
    exact M130_13 (d := d) hM hA rfl rfl rfl (by omega) hb3 (hv.v (D := D) ha hb3) hd hp
/-- a result that stays in its bounds -/
def RzOk (p : Nat) [NeZero p] (D : Nat → Nat → Nat) (h : Nat) (sz : Nat) (r : Rz) : Prop := (∀ i, vOk p r.2.2.1 (r.2.2.2 i)) ∧ (∀ i, sz ≤ i → i < 3 → r.2.2.2 i = fun _ => 0) ∧ ((r.2.2.1 = h ∧ r.2.1 = D) ∨ (r.1 = Int32.ofInt 0 ∧ h < 3 ∧ r.2.2.1 = h + 1 ∧ ∃ v, vOk p h v ∧ r.2.1 = gD D h v))
theorem rz3_0 {u v w : Nat → Nat} : rz3 u v w 0 = u := rfl
theorem rz3_1 {u v w : Nat → Nat} : rz3 u v w 1 = v := rfl
theorem rz3_v [NeZero p] {u v w : Nat → Nat} (hu : vOk p h u) (hv : vOk p h v) (hw : vOk p h w) (i : Nat) : vOk p h (rz3 u v w i) := by
  unfold rz3
  split
  · exact hu
  · split
    · exact hv
    · exact hw
theorem rz3_z1 {u : Nat → Nat} {i : Nat} (h1 : 1 ≤ i) (h3 : i < 3) : rz3 u (fun _ => 0) (fun _ => 0) i = fun _ => 0 := by
  unfold rz3
  rw [if_neg (by omega)]
  split <;> rfl
theorem rz3_z2 {u v : Nat → Nat} {i : Nat} (h1 : 2 ≤ i) (h3 : i < 3) : rz3 u v (fun _ => 0) i = fun _ => 0 := by
  unfold rz3
  rw [if_neg (by omega), if_neg (by omega)]
theorem RzOk.n [NeZero p] {n : Int32} {sz : Nat} : RzOk p D h sz (rzN n D h) := ⟨fun _ => vOk_0, fun _ _ _ => rfl, Or.inl ⟨rfl, rfl⟩⟩
theorem RzOk.k1 [NeZero p] {U : TR p D h} : RzOk p D h 1 (Int32.ofInt 0, D, h, rz3 (tV p D h U) (fun _ => 0) (fun _ => 0)) := ⟨rz3_v tV_vOk vOk_0 vOk_0, fun _ a b => rz3_z1 a b, Or.inl ⟨rfl, rfl⟩⟩
theorem RzOk.k2 [NeZero p] {U W : TR p D h} : RzOk p D h 2 (Int32.ofInt 0, D, h, rz3 (tV p D h U) (tV p D h W) (fun _ => 0)) := ⟨rz3_v tV_vOk tV_vOk vOk_0, fun _ a b => rz3_z2 a b, Or.inl ⟨rfl, rfl⟩⟩
theorem RzOk.k3 [NeZero p] {U W X : TR p D h} : RzOk p D h 3 (Int32.ofInt 0, D, h, rz3 (tV p D h U) (tV p D h W) (tV p D h X)) := ⟨rz3_v tV_vOk tV_vOk tV_vOk, fun _ a b => absurd a (by omega), Or.inl ⟨rfl, rfl⟩⟩
theorem gB_c [NeZero p] {X : TR p D h} (hc : RtC p D h X) : (gH p D h X = h ∧ gB p D h X = D) ∨ (h < 3 ∧ gH p D h X = h + 1 ∧ ∃ v, vOk p h v ∧ gB p D h X = gD D h v) := by
  by_cases hs : @Sq (TR p D h) (TI p D h) X
  · exact Or.inl ⟨if_pos hs, if_pos hs⟩
  · exact Or.inr ⟨hc.resolve_left hs, if_neg hs, tV p D h X, tV_vOk, if_neg hs⟩
theorem RzOk.g [NeZero p] {X : TR p D h} {sz : Nat} {W : Nat → Nat → Nat} (hc : RtC p D h X) (h1 : ∀ i, vOk p (gH p D h X) (W i)) (h2 : ∀ i, sz ≤ i → i < 3 → W i = fun _ => 0) : RzOk p D h sz (Int32.ofInt 0, gB p D h X, gH p D h X, W) := ⟨h1, h2, (gB_c hc).elim Or.inl (fun q => Or.inr ⟨rfl, q⟩)⟩
theorem mtF_ok [NeZero p] {A B C X Y S : TR p D h} {i : Nat} : RzOk p D h 2 (mtF p D h A B C X Y S i) := by
  unfold mtF
  split
  · split
    · split <;> exact RzOk.n
    · split
      · exact RzOk.n
      · exact RzOk.k2
  · split
    · exact RzOk.n
    · split
      · next hc => exact RzOk.g hc (rz3_v tV_vOk tV_vOk vOk_0) (fun _ a b => rz3_z2 a b)
      · exact RzOk.n
theorem mlF_ok [NeZero p] {A B C X Y S : TR p D h} {i : Nat} : RzOk p D h 2 (mlF p D h A B C X Y S i) := by
  unfold mlF
  split
  · split <;> exact RzOk.n
  · split
    · exact RzOk.n
    · exact RzOk.k2
theorem ccF_ok [NeZero p] {A B C X Y S : TR p D h} {i : Nat} : RzOk p D h 2 (ccF p D h A B C X Y S i) := by
  unfold ccF
  split
  · split <;> exact RzOk.n
  · exact mtF_ok
theorem nk4_ok [NeZero p] {A B : TR p D h} : RzOk p D h 1 (nk4 p D h A B) := by
  unfold nk4
  split
  · exact RzOk.n
  · exact RzOk.k1
theorem nk5_ok [NeZero p] {A : TR p D h} : RzOk p D h 1 (nk5 p D h A) := by
  unfold nk5
  split
  · next hc => exact RzOk.g hc (rz3_v tV_vOk vOk_0 vOk_0) (fun _ a b => rz3_z1 a b)
  · exact RzOk.n
theorem nk7_ok [NeZero p] {A B C E : TR p D h} : RzOk p D h 3 (nk7 p D h A B C E) := by
  unfold nk7
  split
  · exact RzOk.n
  · exact RzOk.k3
theorem mkF_ok [NeZero p] {t k a b c : Nat} {z : Int32} {kd : Nat → Nat} (hAg : Ag (fun s => srt (kd s)) t k a b c) : RzOk p D h (szs (srt k)) (mkF p D h V (fun s => srt (kd s)) k z a b c) := by
  rcases hAg with rfl | ⟨hk, -⟩ | ⟨rfl, -⟩ | ⟨hk, -⟩ | ⟨rfl, -⟩ | ⟨hk, -⟩ | ⟨rfl, ⟨-, hsa⟩, ⟨-, hsb⟩, -⟩ | ⟨rfl, -⟩
  · exact RzOk.k1
  · rcases hk with rfl | rfl | rfl | rfl | rfl
    · exact RzOk.k1
    · exact RzOk.k1
    · exact RzOk.k1
    · exact nk4_ok
    · exact RzOk.k2
  · exact nk5_ok
  · rcases hk with rfl | rfl
    · exact nk7_ok
    · exact RzOk.k3
  · exact RzOk.k3
  · rcases hk with rfl | rfl
    · exact RzOk.k3
    · exact RzOk.k3
  · show RzOk p D h 2 (mkF p D h V (fun s => srt (kd s)) 12 z a b c)
    show RzOk p D h 2 (if (fun s => srt (kd s)) a = 2 then (if (fun s => srt (kd s)) b = 2 then mlF p D h _ _ _ _ _ _ c else mtF p D h _ _ _ _ _ _ c) else if (fun s => srt (kd s)) b = 2 then mtF p D h _ _ _ _ _ _ c else ccF p D h _ _ _ _ _ _ c)
    split
    · split
      · exact mlF_ok
      · exact mtF_ok
    · split
      · exact mtF_ok
      · exact ccF_ok
  · exact RzOk.k1
theorem tV_1 [NeZero p] (hp : 2 ≤ p) : tV p D h ((TI p D h).ofNat 1).ofNat = un 0 := funext (fun j => tV_one hp h j)
theorem tV_0 [NeZero p] : tV p D h ((TI p D h).ofNat 0).ofNat = fun _ => 0 := funext (fun j => tV_zero h j)
theorem lnF_ln [NeZero p] {A B X Y : TR p D h} (hp : Pr p) (hodd : p % 2 = 1) (h3 : 3 ≤ p) (hD : tOk p D h) (hn : ¬ (A = ((TI p D h).ofNat 0).ofNat ∧ B = ((TI p D h).ofNat 0).ofNat)) : LnOk ((lnF p D h A B X Y).2.2.2 0) ((lnF p D h A B X Y).2.2.2 1) := by
  have hF := tw_Fl hp hodd h hD
  show LnOk (tV p D h ((TI p D h).mul A (iv p D h (ldE p D h A B)))) (tV p D h ((TI p D h).mul B (iv p D h (ldE p D h A B))))
  by_cases z : B = ((TI p D h).ofNat 0).ofNat
  · rw [ldE_t z]
    obtain ⟨W, hW⟩ := @Fl.isInv (TR p D h) (TI p D h) p (2 ^ h) hF A
    rw [iv_is hW]
    refine Or.inr ⟨?_, ?_⟩
    · rw [z]
      exact (congrArg (tV p D h) ((TI p D h).zero_mul W)).trans tV_0
    · exact (congrArg (tV p D h) (hW.2 (fun q => hn ⟨q, z⟩))).trans (tV_1 (by omega))
  · rw [ldE_f z]
    obtain ⟨W, hW⟩ := @Fl.isInv (TR p D h) (TI p D h) p (2 ^ h) hF B
    rw [iv_is hW]
    exact Or.inl ((congrArg (tV p D h) (hW.2 z)).trans (tV_1 (by omega)))
theorem sb0 {R : Type} [Lean.Grind.CommRing R] {a b : R} (h : a - b = 0) : a = b := by grind
theorem mkF_ln [NeZero p] {t k a b c : Nat} {z : Int32} {kd : Nat → Nat} (hp : Pr p) (hodd : p % 2 = 1) (h3 : 3 ≤ p) (hD : tOk p D h) (hAg : Ag (fun s => srt (kd s)) t k a b c) (hln : ∀ s, s < t → srt (kd s) = 2 → LnOk (V s 0) (V s 1)) (hs2 : srt k = 2) (h0 : (mkF p D h V (fun s => srt (kd s)) k z a b c).1 = Int32.ofInt 0) : LnOk ((mkF p D h V (fun s => srt (kd s)) k z a b c).2.2.2 0) ((mkF p D h V (fun s => srt (kd s)) k z a b c).2.2.2 1) := by
  have hF := tw_Fl hp hodd h hD
  have h1 := @Fl.ne (TR p D h) (TI p D h) p (2 ^ h) hF
  rcases hAg with rfl | ⟨hk, -⟩ | ⟨rfl, -⟩ | ⟨hk, -⟩ | ⟨rfl, -⟩ | ⟨hk, ⟨ha, hsa⟩, -⟩ | ⟨rfl, -⟩ | ⟨rfl, -⟩
  · exact absurd hs2 (by decide)
  · rcases hk with rfl | rfl | rfl | rfl | rfl <;> exact absurd hs2 (by decide)
  · exact absurd hs2 (by decide)
  · rcases hk with rfl | rfl
    · by_cases hc : (oV p D h (V a 0)) = (oV p D h (V b 0)) ∧ (oV p D h (V a 1)) = (oV p D h (V b 1))
      · have em : mkF p D h V (fun s => srt (kd s)) 7 z a b c = rzN (Int32.ofInt (-3)) D h := if_pos hc
        rw [em] at h0
        exact absurd (show Int32.ofInt (-3) = Int32.ofInt 0 from h0) (by decide)
      · have em : mkF p D h V (fun s => srt (kd s)) 7 z a b c = lnF p D h ((TI p D h).sub (oV p D h (V a 1)) (oV p D h (V b 1))) ((TI p D h).sub (oV p D h (V b 0)) (oV p D h (V a 0))) (oV p D h (V a 0)) (oV p D h (V a 1)) := if_neg hc
        rw [em]
        refine lnF_ln hp hodd h3 hD (fun q => hc ⟨?_, ?_⟩)
        · exact (@sb0 (TR p D h) (TI p D h) _ _ q.2).symm
        · exact @sb0 (TR p D h) (TI p D h) _ _ q.1
    · exact absurd hs2 (by decide)
  · exact absurd hs2 (by decide)
  · have hl := (hln a ha hsa).el (p := p) (D := D) (h := h)
    rcases hk with rfl | rfl
    · refine lnF_ln (A := (oV p D h (V a 1))) (B := (TI p D h).neg (oV p D h (V a 0))) (X := (oV p D h (V b 0))) (Y := (oV p D h (V b 1))) hp hodd h3 hD (fun q => ?_)
      have q2 : (oV p D h (V a 0)) = ((TI p D h).ofNat 0).ofNat := (@ng6 (TR p D h) (TI p D h) _).mp q.2
      rcases hl with w | w
      · exact h1 (w.symm.trans q.1)
      · exact h1 (w.2.symm.trans q2)
    · refine lnF_ln (A := (oV p D h (V a 0))) (B := (oV p D h (V a 1))) (X := (oV p D h (V b 0))) (Y := (oV p D h (V b 1))) hp hodd h3 hD (fun q => ?_)
      rcases hl with w | w
      · exact h1 (w.symm.trans q.2)
      · exact h1 (w.2.symm.trans q.1)
  · exact absurd hs2 (by decide)
  · exact absurd hs2 (by decide)
end N6
