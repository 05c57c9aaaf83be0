/-! House: printed by hgen.py -/
section H9
variable {K : Ka} {d o p h : Nat} {M : Me} {I : Nat → Nat → Int32} {J : Nat → Nat → Int64} {D : Nat → Nat → Nat}
def vOk (p h : Nat) (v : Nat → Nat) : Prop := (∀ j, v j < p) ∧ ∀ j, 2 ^ h ≤ j → v j = 0
def Rv (I : Nat → Nat → Int32) (a : Nat) (v : Nat → Nat) : Prop := ∀ j, j < 8 → I a j = nI (v j)
theorem vOk.tv [NeZero p] {v : Nat → Nat} (hv : vOk p h v) : tV p D h (oV p D h v) = v := tV_eq hv.1 hv.2
theorem Rv.re [NeZero p] {v : Nat → Nat} {a : Nat} (hr : Rv I a v) (hv : vOk p h v) : Re I p D h a (oV p D h v) := fun j hj => (hr j hj).trans (congrArg nI (congrFun (hv.tv (D := D)) j).symm)
theorem szs_of {x s i : Nat} (h : x = s) (hi : i < szs s) : i < szs x := h ▸ hi
theorem vOk.up {v : Nat → Nat} {k : Nat} (hv : vOk p h v) (hk : h ≤ k) : vOk p k v := ⟨hv.1, fun j hj => hv.2 j (Nat.le_trans (Nat.pow_le_pow_right (by decide) hk) hj)⟩
theorem tV_vOk [NeZero p] {X : TR p D h} : vOk p h (tV p D h X) := ⟨fun _ => tV_lt, fun _ hj => tV_hi hj⟩
theorem vOk_0 [NeZero p] : vOk p h (fun _ => 0) := ⟨fun _ => Nat.pos_of_ne_zero (NeZero.ne p), fun _ _ => rfl⟩
/-- what a step makes -/
noncomputable def mkF (p : Nat) [NeZero p] (D : Nat → Nat → Nat) (h : Nat) (V : Nat → Nat → Nat → Nat) (sr : Nat → Nat) (k : Nat) (z : Int32) (a b c : Nat) : Rz :=
  if k = 0 then nk0 p D h z else if k = 1 then nk1 p D h (oV p D h (V a 0)) (oV p D h (V b 0)) else if k = 2 then nk2 p D h (oV p D h (V a 0)) (oV p D h (V b 0)) else if k = 3 then nk3 p D h (oV p D h (V a 0)) (oV p D h (V b 0)) else if k = 4 then nk4 p D h (oV p D h (V a 0)) (oV p D h (V b 0)) else if k = 5 then nk5 p D h (oV p D h (V a 0)) else if k = 6 then nk6 p D h (oV p D h (V a 0)) (oV p D h (V b 0))
  else if k = 7 then nk7 p D h (oV p D h (V a 0)) (oV p D h (V a 1)) (oV p D h (V b 0)) (oV p D h (V b 1)) else if k = 8 then nk8 p D h (oV p D h (V a 0)) (oV p D h (V a 1)) (oV p D h (V a 0)) (oV p D h (V a 1)) (oV p D h (V b 0)) (oV p D h (V b 1)) else if k = 9 then nk8 p D h (oV p D h (V a 0)) (oV p D h (V a 1)) (oV p D h (V b 0)) (oV p D h (V b 1)) (oV p D h (V c 0)) (oV p D h (V c 1)) else if k = 10 then lnF p D h (oV p D h (V a 1)) ((TI p D h).neg (oV p D h (V a 0))) (oV p D h (V b 0)) (oV p D h (V b 1)) else if k = 11 then lnF p D h (oV p D h (V a 0)) (oV p D h (V a 1)) (oV p D h (V b 0)) (oV p D h (V b 1))
  else if k = 12 then (if sr a = 2 then (if sr b = 2 then mlF p D h (oV p D h (V a 0)) (oV p D h (V a 1)) (oV p D h (V a 2)) (oV p D h (V b 0)) (oV p D h (V b 1)) (oV p D h (V b 2)) c else mtF p D h (oV p D h (V a 0)) (oV p D h (V a 1)) (oV p D h (V a 2)) (oV p D h (V b 0)) (oV p D h (V b 1)) (oV p D h (V b 2)) c) else if sr b = 2 then mtF p D h (oV p D h (V b 0)) (oV p D h (V b 1)) (oV p D h (V b 2)) (oV p D h (V a 0)) (oV p D h (V a 1)) (oV p D h (V a 2)) c else ccF p D h (oV p D h (V a 0)) (oV p D h (V a 1)) (oV p D h (V a 2)) (oV p D h (V b 0)) (oV p D h (V b 1)) (oV p D h (V b 2)) c) else nk13 p D h (oV p D h (V a b))
/-- what a step may be told -/
def Ag (sr : Nat → Nat) (t k a b c : Nat) : Prop := k = 0 ∨ ((k = 1 ∨ k = 2 ∨ k = 3 ∨ k = 4 ∨ k = 6) ∧ (a < t ∧ sr a = 0) ∧ b < t ∧ sr b = 0) ∨ (k = 5 ∧ a < t ∧ sr a = 0) ∨ ((k = 7 ∨ k = 8) ∧ (a < t ∧ sr a = 1) ∧ b < t ∧ sr b = 1) ∨ (k = 9 ∧ (a < t ∧ sr a = 1) ∧ (b < t ∧ sr b = 1) ∧ c < t ∧ sr c = 1) ∨ ((k = 10 ∨ k = 11) ∧ (a < t ∧ sr a = 2) ∧ b < t ∧ sr b = 1) ∨ (k = 12 ∧ (a < t ∧ (sr a = 2 ∨ sr a = 3)) ∧ (b < t ∧ (sr b = 2 ∨ sr b = 3)) ∧ c < 2) ∨ (k = 13 ∧ (a < t ∧ (sr a = 1 ∨ sr a = 2 ∨ sr a = 3)) ∧ b < szs (sr a))
/-- the rows of the first n things -/
def HV (I : Nat → Nat → Int32) (o p h n : Nat) (sr : Nat → Nat) (V : Nat → Nat → Nat → Nat) : Prop := ∀ s, s < n → ∀ i, i < szs (sr s) → Rv I (o + 26 + 3 * s + i) (V s i) ∧ vOk p h (V s i)
theorem HV.re [NeZero p] {n : Nat} {sr : Nat → Nat} {V : Nat → Nat → Nat → Nat} {s i : Nat} (hv : HV I o p h n sr V) (hs : s < n) (hi : i < szs (sr s)) : Re I p D h (o + 26 + 3 * s + i) (oV p D h (V s i)) := (hv s hs i hi).1.re (hv s hs i hi).2
theorem rzh_cases [NeZero p] {V : Nat → Nat → Nat → Nat} {sr : Nat → Nat} {k : Nat} {z : Int32} {a b c : Nat} : h ≤ (mkF p D h V sr k z a b c).2.2.1 := by
  have h5 : ∀ A : TR p D h, h ≤ (nk5 p D h A).2.2.1 := fun A => by
    unfold nk5
    split
    · exact gH_le.1
    · exact Nat.le_refl h
  have h4 : ∀ A B : TR p D h, h ≤ (nk4 p D h A B).2.2.1 := fun A B => by
    unfold nk4
    split <;> exact Nat.le_refl h
  have h7 : ∀ A B C E : TR p D h, h ≤ (nk7 p D h A B C E).2.2.1 := fun A B C E => by
    unfold nk7
    split <;> exact Nat.le_refl h
  have hmt : ∀ (A B C X Y S : TR p D h) (i : Nat), h ≤ (mtF p D h A B C X Y S i).2.2.1 := fun A B C X Y S i => by
    unfold mtF
    split
    · split
      · split <;> exact Nat.le_refl h
      · split <;> exact Nat.le_refl h
    · split
      · exact Nat.le_refl h
      · split
        · exact gH_le.1
        · exact Nat.le_refl h
  have hml : ∀ (A B C X Y S : TR p D h) (i : Nat), h ≤ (mlF p D h A B C X Y S i).2.2.1 := fun A B C X Y S i => by
    unfold mlF
    split
    · split <;> exact Nat.le_refl h
    · split <;> exact Nat.le_refl h
  have hcc : ∀ (A B C X Y S : TR p D h) (i : Nat), h ≤ (ccF p D h A B C X Y S i).2.2.1 := fun A B C X Y S i => by
    unfold ccF
    split
    · split <;> exact Nat.le_refl h
    · exact hmt _ _ _ _ _ _ _
  unfold mkF
  by_cases k0 : k = 0
  · rw [if_pos k0]; exact Nat.le_refl h
  rw [if_neg k0]
  by_cases k1 : k = 1
  · rw [if_pos k1]; exact Nat.le_refl h
  rw [if_neg k1]
  by_cases k2 : k = 2
  · rw [if_pos k2]; exact Nat.le_refl h
  rw [if_neg k2]
  by_cases k3 : k = 3
  · rw [if_pos k3]; exact Nat.le_refl h
  rw [if_neg k3]
  by_cases k4 : k = 4
  · rw [if_pos k4]; exact h4 _ _
  rw [if_neg k4]
  by_cases k5 : k = 5
  · rw [if_pos k5]; exact h5 _
  rw [if_neg k5]
  by_cases k6 : k = 6
  · rw [if_pos k6]; exact Nat.le_refl h
  rw [if_neg k6]
  by_cases k7 : k = 7
  · rw [if_pos k7]; exact h7 _ _ _ _
  rw [if_neg k7]
  by_cases k8 : k = 8
  · rw [if_pos k8]; exact Nat.le_refl h
  rw [if_neg k8]
  by_cases k9 : k = 9
  · rw [if_pos k9]; exact Nat.le_refl h
  rw [if_neg k9]
  by_cases k10 : k = 10
  · rw [if_pos k10]; exact Nat.le_refl h
  rw [if_neg k10]
  by_cases k11 : k = 11
  · rw [if_pos k11]; exact Nat.le_refl h
  rw [if_neg k11]
  by_cases k12 : k = 12
  · rw [if_pos k12]
    split
    · split
      · exact hml _ _ _ _ _ _ _
      · exact hmt _ _ _ _ _ _ _
    · split
      · exact hmt _ _ _ _ _ _ _
      · exact hcc _ _ _ _ _ _ _
  · rw [if_neg k12]; exact Nat.le_refl h
set_option maxHeartbeats 4000000 in
theorem make_in [NeZero p] {S t n k a b c : Nat} {z w1 w2 : Int32} {kd : Nat → Nat} {V : Nat → Nat → Nat → Nat} (hKt : Kst K) (hM : HsM M o) (hA : TwA I (o + 1) p h D) (hS : StM M S) (hSo : S + 3 ≤ o) (hn : I S 0 = nI n) (hn6 : n ≤ 60) (htn : t ≤ n) (ht : t < 60) (hkd : ∀ s, s < n → I (S + 1) s = nI (kd s) ∧ kd s < 14) (hv : HV I o p h t (fun s => srt (kd s)) V) (h0 : I (S + 2) (3 * t + 0) = z) (h1 : I (S + 2) (3 * t + 1) = w1) (h2 : I (S + 2) (3 * t + 2) = w2) (ea : k ≠ 0 → z = nI a) (eb : k ≠ 0 → k ≠ 5 → w1 = nI b) (ec : k = 9 ∨ k = 12 → w2 = nI c) (hAg : Ag (fun s => srt (kd s)) t k a b c) (post' : Option Value → Me → Prop) (hp : ∀ I1 J1, OutC I1 o p t (szs (srt k)) (mkF p D h V (fun s => srt (kd s)) k z a b c) → FrC I I1 o t → post' (some (.int (mkF p D h V (fun s => srt (kd s)) k z a b c).1)) (St M I1 J1)) : if k ≤ 5 then Ok K (d + 10) 16 [.ref o, .int (nI t), .int (nI k), .int (I (S + 2) (3 * t + 0)), .int (I (S + 2) (3 * t + 1))] (St M I J) post' else if k = 12 then Ok K (d + 10) 24 [.ref o, .int (nI t), .ref S] (St M I J) post' else Ok K (d + 10) 17 [.ref o, .int (nI t), .int (nI k), .ref S] (St M I J) post' := by
  have hK := hKt.1
  rcases hAg with rfl | ⟨hk, ⟨ha, hsa⟩, hb, hsb⟩ | ⟨rfl, ha, hsa⟩ | ⟨hk, ⟨ha, hsa⟩, hb, hsb⟩ | ⟨rfl, ⟨ha, hsa⟩, ⟨hb, hsb⟩, hc, hsc⟩ | ⟨hk, ⟨ha, hsa⟩, hb, hsb⟩ | ⟨rfl, ⟨ha, hsa⟩, ⟨hb, hsb⟩, hc⟩ | ⟨rfl, ⟨ha, hsa⟩, hb⟩
  · rw [if_pos (by decide), h0, h1]
    exact H16_0 (d := d) hK hM hA rfl rfl ht (by omega) hp
  · rcases hk with rfl | rfl | rfl | rfl | rfl
    · have ea := ea (by decide)
      have eb := eb (by decide) (by decide)
      subst ea eb
      rw [if_pos (by decide), h0, h1]
      exact H16_1 (d := d) hK hM hA rfl rfl rfl rfl ht ha hb (hv.re (D := D) (s := a) (i := 0) (by omega) (szs_of hsa (by decide))) (hv.re (D := D) (s := b) (i := 0) (by omega) (szs_of hsb (by decide))) (by omega) hp
    · have ea := ea (by decide)
      have eb := eb (by decide) (by decide)
      subst ea eb
      rw [if_pos (by decide), h0, h1]
      exact H16_2 (d := d) hK hM hA rfl rfl rfl rfl ht ha hb (hv.re (D := D) (s := a) (i := 0) (by omega) (szs_of hsa (by decide))) (hv.re (D := D) (s := b) (i := 0) (by omega) (szs_of hsb (by decide))) (by omega) hp
    · have ea := ea (by decide)
      have eb := eb (by decide) (by decide)
      subst ea eb
      rw [if_pos (by decide), h0, h1]
      exact H16_3 (d := d) hK hM hA rfl rfl rfl rfl ht ha hb (hv.re (D := D) (s := a) (i := 0) (by omega) (szs_of hsa (by decide))) (hv.re (D := D) (s := b) (i := 0) (by omega) (szs_of hsb (by decide))) (by omega) hp
    · have ea := ea (by decide)
      have eb := eb (by decide) (by decide)
      subst ea eb
      rw [if_pos (by decide), h0, h1]
      exact H16_4 (d := d) hK hM hA rfl rfl rfl rfl ht ha hb (hv.re (D := D) (s := a) (i := 0) (by omega) (szs_of hsa (by decide))) (hv.re (D := D) (s := b) (i := 0) (by omega) (szs_of hsb (by decide))) (by omega) hp
    · have ea := ea (by decide)
      have eb := eb (by decide) (by decide)
      subst ea eb
      rw [if_neg (by decide), if_neg (by decide)]
      exact H17_6 (d := d) hK hM hA rfl rfl (hv.re (D := D) (s := a) (i := 0) (by omega) (szs_of hsa (by decide))) (hv.re (D := D) (s := b) (i := 0) (by omega) (szs_of hsb (by decide))) hKt hS hSo h0 h1 ht ha hb (by omega) hp
  · have ea := ea (by decide)
    subst ea
    rw [if_pos (by decide), h0, h1]
    exact H16_5 (d := d) hK hM hA rfl rfl rfl ht ha (hv.re (D := D) (s := a) (i := 0) (by omega) (szs_of hsa (by decide))) (by omega) hp
  · rcases hk with rfl | rfl
    · have ea := ea (by decide)
      have eb := eb (by decide) (by decide)
      subst ea eb
      rw [if_neg (by decide), if_neg (by decide)]
      exact H17_7 (d := d) hK hM hA rfl rfl (hv.re (D := D) (s := a) (i := 0) (by omega) (szs_of hsa (by decide))) (hv.re (D := D) (s := a) (i := 1) (by omega) (szs_of hsa (by decide))) (hv.re (D := D) (s := b) (i := 0) (by omega) (szs_of hsb (by decide))) (hv.re (D := D) (s := b) (i := 1) (by omega) (szs_of hsb (by decide))) hKt hS hSo h0 h1 ht ha hb (by omega) hp
    · have ea := ea (by decide)
      have eb := eb (by decide) (by decide)
      subst ea eb
      rw [if_neg (by decide), if_neg (by decide)]
      exact H17_8 (d := d) hK hM hA rfl rfl (hv.re (D := D) (s := a) (i := 0) (by omega) (szs_of hsa (by decide))) (hv.re (D := D) (s := a) (i := 1) (by omega) (szs_of hsa (by decide))) (hv.re (D := D) (s := b) (i := 0) (by omega) (szs_of hsb (by decide))) (hv.re (D := D) (s := b) (i := 1) (by omega) (szs_of hsb (by decide))) hKt hS hSo h0 h1 ht ha hb (by omega) hp
  · have ea := ea (by decide)
    have eb := eb (by decide) (by decide)
    have ec := ec (by decide)
    subst ea eb ec
    rw [if_neg (by decide), if_neg (by decide)]
    exact H17_9 (d := d) hK hM hA rfl rfl (hv.re (D := D) (s := a) (i := 0) (by omega) (szs_of hsa (by decide))) (hv.re (D := D) (s := a) (i := 1) (by omega) (szs_of hsa (by decide))) (hv.re (D := D) (s := b) (i := 0) (by omega) (szs_of hsb (by decide))) (hv.re (D := D) (s := b) (i := 1) (by omega) (szs_of hsb (by decide))) (hv.re (D := D) (s := c) (i := 0) (by omega) (szs_of hsc (by decide))) (hv.re (D := D) (s := c) (i := 1) (by omega) (szs_of hsc (by decide))) hKt hS hSo h0 h1 h2 ht ha hb hc (by omega) hp
  · rcases hk with rfl | rfl
    · have ea := ea (by decide)
      have eb := eb (by decide) (by decide)
      subst ea eb
      rw [if_neg (by decide), if_neg (by decide)]
      exact H17_10 (d := d) hK hM hA rfl rfl (hv.re (D := D) (s := a) (i := 0) (by omega) (szs_of hsa (by decide))) (hv.re (D := D) (s := a) (i := 1) (by omega) (szs_of hsa (by decide))) (hv.re (D := D) (s := b) (i := 0) (by omega) (szs_of hsb (by decide))) (hv.re (D := D) (s := b) (i := 1) (by omega) (szs_of hsb (by decide))) hKt hS hSo h0 h1 ht ha hb (by omega) hp
    · have ea := ea (by decide)
      have eb := eb (by decide) (by decide)
      subst ea eb
      rw [if_neg (by decide), if_neg (by decide)]
      exact H17_11 (d := d) hK hM hA rfl rfl (hv.re (D := D) (s := a) (i := 0) (by omega) (szs_of hsa (by decide))) (hv.re (D := D) (s := a) (i := 1) (by omega) (szs_of hsa (by decide))) (hv.re (D := D) (s := b) (i := 0) (by omega) (szs_of hsb (by decide))) (hv.re (D := D) (s := b) (i := 1) (by omega) (szs_of hsb (by decide))) hKt hS hSo h0 h1 ht ha hb (by omega) hp
  · have ea := ea (by decide)
    have eb := eb (by decide) (by decide)
    have ec := ec (by decide)
    subst ea eb ec
    rw [if_neg (by decide), if_pos (by decide)]
    obtain ⟨ka1, ka2⟩ := hkd a (by omega)
    obtain ⟨kb1, kb2⟩ := hkd b (by omega)
    rcases hsa with hsa | hsa
    · rcases hsb with hsb | hsb
      · have em : mkF p D h V (fun s => srt (kd s)) 12 (nI a) a b c = mlF p D h (oV p D h (V a 0)) (oV p D h (V a 1)) (oV p D h (V a 2)) (oV p D h (V b 0)) (oV p D h (V b 1)) (oV p D h (V b 2)) c := (if_pos hsa).trans (if_pos hsb)
        rw [em] at hp
        rcases (show c = 0 ∨ c = 1 by omega) with rfl | rfl
        · exact H24_220 (d := d) (g := a) (k := b) hK hM hA rfl (hv.re (D := D) (s := a) (i := 0) (by omega) (szs_of hsa (by decide))) (hv.re (D := D) (s := a) (i := 1) (by omega) (szs_of hsa (by decide))) (hv.re (D := D) (s := a) (i := 2) (by omega) (szs_of hsa (by decide))) (hv.re (D := D) (s := b) (i := 0) (by omega) (szs_of hsb (by decide))) (hv.re (D := D) (s := b) (i := 1) (by omega) (szs_of hsb (by decide))) (hv.re (D := D) (s := b) (i := 2) (by omega) (szs_of hsb (by decide))) hKt hS hSo hn hn6 htn h0 h1 h2 ht ha hb ka1 ka2 hsa kb1 kb2 hsb (by omega) hp
        · exact H24_221 (d := d) (g := a) (k := b) hK hM hA rfl (hv.re (D := D) (s := a) (i := 0) (by omega) (szs_of hsa (by decide))) (hv.re (D := D) (s := a) (i := 1) (by omega) (szs_of hsa (by decide))) (hv.re (D := D) (s := a) (i := 2) (by omega) (szs_of hsa (by decide))) (hv.re (D := D) (s := b) (i := 0) (by omega) (szs_of hsb (by decide))) (hv.re (D := D) (s := b) (i := 1) (by omega) (szs_of hsb (by decide))) (hv.re (D := D) (s := b) (i := 2) (by omega) (szs_of hsb (by decide))) hKt hS hSo hn hn6 htn h0 h1 h2 ht ha hb ka1 ka2 hsa kb1 kb2 hsb (by omega) hp
      · have em : mkF p D h V (fun s => srt (kd s)) 12 (nI a) a b c = mtF p D h (oV p D h (V a 0)) (oV p D h (V a 1)) (oV p D h (V a 2)) (oV p D h (V b 0)) (oV p D h (V b 1)) (oV p D h (V b 2)) c := (if_pos hsa).trans (if_neg (fun q => absurd (hsb.symm.trans q) (by decide)))
        rw [em] at hp
        rcases (show c = 0 ∨ c = 1 by omega) with rfl | rfl
        · exact H24_230 (d := d) (g := a) (k := b) hK hM hA rfl (hv.re (D := D) (s := a) (i := 0) (by omega) (szs_of hsa (by decide))) (hv.re (D := D) (s := a) (i := 1) (by omega) (szs_of hsa (by decide))) (hv.re (D := D) (s := a) (i := 2) (by omega) (szs_of hsa (by decide))) (hv.re (D := D) (s := b) (i := 0) (by omega) (szs_of hsb (by decide))) (hv.re (D := D) (s := b) (i := 1) (by omega) (szs_of hsb (by decide))) (hv.re (D := D) (s := b) (i := 2) (by omega) (szs_of hsb (by decide))) hKt hS hSo hn hn6 htn h0 h1 h2 ht ha hb ka1 ka2 hsa kb1 kb2 hsb (by omega) hp
        · exact H24_231 (d := d) (g := a) (k := b) hK hM hA rfl (hv.re (D := D) (s := a) (i := 0) (by omega) (szs_of hsa (by decide))) (hv.re (D := D) (s := a) (i := 1) (by omega) (szs_of hsa (by decide))) (hv.re (D := D) (s := a) (i := 2) (by omega) (szs_of hsa (by decide))) (hv.re (D := D) (s := b) (i := 0) (by omega) (szs_of hsb (by decide))) (hv.re (D := D) (s := b) (i := 1) (by omega) (szs_of hsb (by decide))) (hv.re (D := D) (s := b) (i := 2) (by omega) (szs_of hsb (by decide))) hKt hS hSo hn hn6 htn h0 h1 h2 ht ha hb ka1 ka2 hsa kb1 kb2 hsb (by omega) hp
    · rcases hsb with hsb | hsb
      · have em : mkF p D h V (fun s => srt (kd s)) 12 (nI a) a b c = mtF p D h (oV p D h (V b 0)) (oV p D h (V b 1)) (oV p D h (V b 2)) (oV p D h (V a 0)) (oV p D h (V a 1)) (oV p D h (V a 2)) c := (if_neg (fun q => absurd (hsa.symm.trans q) (by decide))).trans (if_pos hsb)
        rw [em] at hp
        rcases (show c = 0 ∨ c = 1 by omega) with rfl | rfl
        · exact H24_320 (d := d) (g := a) (k := b) hK hM hA rfl (hv.re (D := D) (s := a) (i := 0) (by omega) (szs_of hsa (by decide))) (hv.re (D := D) (s := a) (i := 1) (by omega) (szs_of hsa (by decide))) (hv.re (D := D) (s := a) (i := 2) (by omega) (szs_of hsa (by decide))) (hv.re (D := D) (s := b) (i := 0) (by omega) (szs_of hsb (by decide))) (hv.re (D := D) (s := b) (i := 1) (by omega) (szs_of hsb (by decide))) (hv.re (D := D) (s := b) (i := 2) (by omega) (szs_of hsb (by decide))) hKt hS hSo hn hn6 htn h0 h1 h2 ht ha hb ka1 ka2 hsa kb1 kb2 hsb (by omega) hp
        · exact H24_321 (d := d) (g := a) (k := b) hK hM hA rfl (hv.re (D := D) (s := a) (i := 0) (by omega) (szs_of hsa (by decide))) (hv.re (D := D) (s := a) (i := 1) (by omega) (szs_of hsa (by decide))) (hv.re (D := D) (s := a) (i := 2) (by omega) (szs_of hsa (by decide))) (hv.re (D := D) (s := b) (i := 0) (by omega) (szs_of hsb (by decide))) (hv.re (D := D) (s := b) (i := 1) (by omega) (szs_of hsb (by decide))) (hv.re (D := D) (s := b) (i := 2) (by omega) (szs_of hsb (by decide))) hKt hS hSo hn hn6 htn h0 h1 h2 ht ha hb ka1 ka2 hsa kb1 kb2 hsb (by omega) hp
      · have em : mkF p D h V (fun s => srt (kd s)) 12 (nI a) a b c = ccF p D h (oV p D h (V a 0)) (oV p D h (V a 1)) (oV p D h (V a 2)) (oV p D h (V b 0)) (oV p D h (V b 1)) (oV p D h (V b 2)) c := (if_neg (fun q => absurd (hsa.symm.trans q) (by decide))).trans (if_neg (fun q => absurd (hsb.symm.trans q) (by decide)))
        rw [em] at hp
        rcases (show c = 0 ∨ c = 1 by omega) with rfl | rfl
        · exact H24_330 (d := d) (g := a) (k := b) hK hM hA rfl (hv.re (D := D) (s := a) (i := 0) (by omega) (szs_of hsa (by decide))) (hv.re (D := D) (s := a) (i := 1) (by omega) (szs_of hsa (by decide))) (hv.re (D := D) (s := a) (i := 2) (by omega) (szs_of hsa (by decide))) (hv.re (D := D) (s := b) (i := 0) (by omega) (szs_of hsb (by decide))) (hv.re (D := D) (s := b) (i := 1) (by omega) (szs_of hsb (by decide))) (hv.re (D := D) (s := b) (i := 2) (by omega) (szs_of hsb (by decide))) hKt hS hSo hn hn6 htn h0 h1 h2 ht ha hb ka1 ka2 hsa kb1 kb2 hsb (by omega) hp
        · exact H24_331 (d := d) (g := a) (k := b) hK hM hA rfl (hv.re (D := D) (s := a) (i := 0) (by omega) (szs_of hsa (by decide))) (hv.re (D := D) (s := a) (i := 1) (by omega) (szs_of hsa (by decide))) (hv.re (D := D) (s := a) (i := 2) (by omega) (szs_of hsa (by decide))) (hv.re (D := D) (s := b) (i := 0) (by omega) (szs_of hsb (by decide))) (hv.re (D := D) (s := b) (i := 1) (by omega) (szs_of hsb (by decide))) (hv.re (D := D) (s := b) (i := 2) (by omega) (szs_of hsb (by decide))) hKt hS hSo hn hn6 htn h0 h1 h2 ht ha hb ka1 ka2 hsa kb1 kb2 hsb (by omega) hp
  · have ea := ea (by decide)
    have eb := eb (by decide) (by decide)
    subst ea eb
    rw [if_neg (by decide), if_neg (by decide)]
    exact H17_13 (d := d) hK hM hA rfl rfl (hv.re (D := D) ha hb) hKt hS hSo h0 h1 ht ha (Nat.lt_of_lt_of_le hb (szs_le _)) (by omega) hp
theorem make_ok [NeZero p] {S t n k a b c d' : Nat} {y z w1 w2 : Int32} {kd : Nat → Nat} {V : Nat → Nat → Nat → Nat} {post : Option Value → Me → Prop} (hKt : Kst K) (hM : HsM M o) (hA : TwA I (o + 1) p h D) (hS : StM M S) (hSo : S + 3 ≤ o) (hn : I S 0 = nI n) (hn6 : n ≤ 60) (htn : t ≤ n) (ht : t < 60) (hkd : ∀ s, s < n → I (S + 1) s = nI (kd s) ∧ kd s < 14) (hkt : I (S + 1) t = nI k) (hk14 : k < 14) (hv : HV I o p h t (fun s => srt (kd s)) V) (h0 : I (S + 2) (3 * t + 0) = z) (h1 : I (S + 2) (3 * t + 1) = w1) (h2 : I (S + 2) (3 * t + 2) = w2) (ea : k ≠ 0 → z = nI a) (eb : k ≠ 0 → k ≠ 5 → w1 = nI b) (ec : k = 9 ∨ k = 12 → w2 = nI c) (hAg : Ag (fun s => srt (kd s)) t k a b c) (hy : y = nI t) (hd : d + 11 ≤ d') (hp : ∀ I1 J1, OutC I1 o p t (szs (srt k)) (mkF p D h V (fun s => srt (kd s)) k z a b c) → I1 (o + 209) = (fun j => if j = t then nI ((mkF p D h V (fun s => srt (kd s)) k z a b c).2.2.1 - h) else I (o + 209) j) → FrM I I1 o t → post (some (.int (mkF p D h V (fun s => srt (kd s)) k z a b c).1)) (St M I1 J1)) : Ok K d' 14 [.ref o, .int y, .ref S] (St M I J) post :=
  H14 (d := d) hM hA hS hy ht (szs_le _) hkt hk14 rzh_cases (fun post' hp' => make_in hKt hM hA hS hSo hn hn6 htn ht hkd hv h0 h1 h2 ea eb ec hAg post' hp') hd hp
end H9
