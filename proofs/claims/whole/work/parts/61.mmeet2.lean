/-! The model: printed by mgen.py -/
section N4
variable {K : Ka} {d m p h : Nat} {M : Me} {I : Nat → Nat → Int32} {J : Nat → Nat → Int64} {D : Nat → Nat → Nat} {G : Nat → Nat → Int32}
set_option maxHeartbeats 4000000 in
theorem M133_220 [NeZero p] {g k d' : Nat} {z0 z1 z2 : Int32} {P0 P1 P2 Q0 Q1 Q2 : TR p D h} {post : Option Value → Me → Prop} (hM : MoM M m) (hA : MoA I m p h D) (hz0 : z0 = nI g) (hz1 : z1 = nI k) (hz2 : z2 = nI 0) (hg : g < 60) (hk : k < 60) (hP0 : ∀ j, j < 8 → I (m + 7) (24 * g + 8 * 0 + j) = vE p D h P0 j) (hP1 : ∀ j, j < 8 → I (m + 7) (24 * g + 8 * 1 + j) = vE p D h P1 j) (hP2 : ∀ j, j < 8 → I (m + 7) (24 * g + 8 * 2 + j) = vE p D h P2 j) (hQ0 : ∀ j, j < 8 → I (m + 7) (24 * k + 8 * 0 + j) = vE p D h Q0 j) (hQ1 : ∀ j, j < 8 → I (m + 7) (24 * k + 8 * 1 + j) = vE p D h Q1 j) (hQ2 : ∀ j, j < 8 → I (m + 7) (24 * k + 8 * 2 + j) = vE p D h Q2 j) (so_g : I (m + 5) g = nI 2) (so_k : I (m + 5) k = nI 2) (h17 : I m 17 = nI 0) (hcr : ((TI p D h).sub ((TI p D h).mul P0 Q1) ((TI p D h).mul P1 Q0)) = ((TI p D h).ofNat 0).ofNat ↔ (P0 = Q0 ∧ P1 = Q1)) (hd : d + 12 ≤ d') (hp : ∀ I1 G1 J1, OutM I I1 G1 m p h 2 (Int32.ofInt 1) (mlF p D h P0 P1 P2 Q0 Q1 Q2 0) → post (some (.int (mlF p D h P0 P1 P2 Q0 Q1 Q2 0).1)) (St M (rg I1 m G1) J1)) : Ok K d' 133 [.ref m, .int z0, .int z1, .int z2] (St M (rg I m G) J) post := by
  refine Ok.up (d := d + 12) (post := post) ?_ hd (fun _ _ h => h)
  subst hz0 hz1 hz2
  refine Ok.go (e := me_133) rfl rfl (Nat.le_of_ble_eq_true rfl) hM.c ?_
  refine Rf.go 400 [] ?_
  refine And.intro hM.c ⟨m + 5, hM.r8, ?_⟩
  refine Or.inr (And.intro ⟨(hM.a60 (a := m + 5) (by omega)).1, inb60 (a := 0) hM (by omega)⟩ ?_)
  have w1 : ¬ cmpI .ne (rg I m G (m + 5) (nI g).toNatClampNeg) (Int32.ofInt 2) = true := by rw [show rg I m G (m + 5) (nI g).toNatClampNeg = nI 2 from (srt_at (by omega)).trans (so_g)]; decide
  refine And.intro (fun hb => absurd hb w1) (fun _ => ?_)
  refine And.intro hM.c ⟨m + 5, hM.r8, ?_⟩
  refine Or.inr (And.intro ⟨(hM.a60 (a := m + 5) (by omega)).1, inb60 (a := 0) hM (by omega)⟩ ?_)
  have w2 : ¬ cmpI .ne (rg I m G (m + 5) (nI k).toNatClampNeg) (Int32.ofInt 2) = true := by rw [show rg I m G (m + 5) (nI k).toNatClampNeg = nI 2 from (srt_at (by omega)).trans (so_k)]; decide
  refine And.intro (fun hb => absurd hb w2) (fun _ => ?_)
  refine M134_0 (d := d) (l := g) (k := k) hM hA rfl rfl rfl (by omega) (by omega) hP0 hP1 hP2 hQ0 hQ1 hQ2 (so_g.trans so_k.symm) h17 hcr (by omega) (fun I9 G9 J9 o9 => ?_)
  exact ⟨rfl, hp I9 G9 J9 o9⟩
set_option maxHeartbeats 4000000 in
theorem M133_221 [NeZero p] {g k d' : Nat} {z0 z1 z2 : Int32} {P0 P1 P2 Q0 Q1 Q2 : TR p D h} {post : Option Value → Me → Prop} (hM : MoM M m) (hA : MoA I m p h D) (hz0 : z0 = nI g) (hz1 : z1 = nI k) (hz2 : z2 = nI 1) (hg : g < 60) (hk : k < 60) (hP0 : ∀ j, j < 8 → I (m + 7) (24 * g + 8 * 0 + j) = vE p D h P0 j) (hP1 : ∀ j, j < 8 → I (m + 7) (24 * g + 8 * 1 + j) = vE p D h P1 j) (hP2 : ∀ j, j < 8 → I (m + 7) (24 * g + 8 * 2 + j) = vE p D h P2 j) (hQ0 : ∀ j, j < 8 → I (m + 7) (24 * k + 8 * 0 + j) = vE p D h Q0 j) (hQ1 : ∀ j, j < 8 → I (m + 7) (24 * k + 8 * 1 + j) = vE p D h Q1 j) (hQ2 : ∀ j, j < 8 → I (m + 7) (24 * k + 8 * 2 + j) = vE p D h Q2 j) (so_g : I (m + 5) g = nI 2) (so_k : I (m + 5) k = nI 2) (h17 : I m 17 = nI 0) (hcr : ((TI p D h).sub ((TI p D h).mul P0 Q1) ((TI p D h).mul P1 Q0)) = ((TI p D h).ofNat 0).ofNat ↔ (P0 = Q0 ∧ P1 = Q1)) (hd : d + 12 ≤ d') (hp : ∀ I1 G1 J1, OutM I I1 G1 m p h 2 (Int32.ofInt 1) (mlF p D h P0 P1 P2 Q0 Q1 Q2 1) → post (some (.int (mlF p D h P0 P1 P2 Q0 Q1 Q2 1).1)) (St M (rg I1 m G1) J1)) : Ok K d' 133 [.ref m, .int z0, .int z1, .int z2] (St M (rg I m G) J) post := by
  refine Ok.up (d := d + 12) (post := post) ?_ hd (fun _ _ h => h)
  subst hz0 hz1 hz2
  refine Ok.go (e := me_133) rfl rfl (Nat.le_of_ble_eq_true rfl) hM.c ?_
  refine Rf.go 400 [] ?_
  refine And.intro hM.c ⟨m + 5, hM.r8, ?_⟩
  refine Or.inr (And.intro ⟨(hM.a60 (a := m + 5) (by omega)).1, inb60 (a := 0) hM (by omega)⟩ ?_)
  have w1 : ¬ cmpI .ne (rg I m G (m + 5) (nI g).toNatClampNeg) (Int32.ofInt 2) = true := by rw [show rg I m G (m + 5) (nI g).toNatClampNeg = nI 2 from (srt_at (by omega)).trans (so_g)]; decide
  refine And.intro (fun hb => absurd hb w1) (fun _ => ?_)
  refine And.intro hM.c ⟨m + 5, hM.r8, ?_⟩
  refine Or.inr (And.intro ⟨(hM.a60 (a := m + 5) (by omega)).1, inb60 (a := 0) hM (by omega)⟩ ?_)
  have w2 : ¬ cmpI .ne (rg I m G (m + 5) (nI k).toNatClampNeg) (Int32.ofInt 2) = true := by rw [show rg I m G (m + 5) (nI k).toNatClampNeg = nI 2 from (srt_at (by omega)).trans (so_k)]; decide
  refine And.intro (fun hb => absurd hb w2) (fun _ => ?_)
  refine M134_1 (d := d) (l := g) (k := k) hM hA rfl rfl rfl (by omega) (by omega) hP0 hP1 hP2 hQ0 hQ1 hQ2 (so_g.trans so_k.symm) h17 hcr (by omega) (fun I9 G9 J9 o9 => ?_)
  exact ⟨rfl, hp I9 G9 J9 o9⟩
set_option maxHeartbeats 4000000 in
theorem M133_230 [NeZero p] {g k d' : Nat} {z0 z1 z2 : Int32} {P0 P1 P2 Q0 Q1 Q2 : TR p D h} {post : Option Value → Me → Prop} (hM : MoM M m) (hA : MoA I m p h D) (hz0 : z0 = nI g) (hz1 : z1 = nI k) (hz2 : z2 = nI 0) (hg : g < 60) (hk : k < 60) (hP0 : ∀ j, j < 8 → I (m + 7) (24 * g + 8 * 0 + j) = vE p D h P0 j) (hP1 : ∀ j, j < 8 → I (m + 7) (24 * g + 8 * 1 + j) = vE p D h P1 j) (hP2 : ∀ j, j < 8 → I (m + 7) (24 * g + 8 * 2 + j) = vE p D h P2 j) (hQ0 : ∀ j, j < 8 → I (m + 7) (24 * k + 8 * 0 + j) = vE p D h Q0 j) (hQ1 : ∀ j, j < 8 → I (m + 7) (24 * k + 8 * 1 + j) = vE p D h Q1 j) (hQ2 : ∀ j, j < 8 → I (m + 7) (24 * k + 8 * 2 + j) = vE p D h Q2 j) (so_g : I (m + 5) g = nI 2) (so_k : I (m + 5) k = nI 3) (h17 : I m 17 = nI 0) (hd : d + 12 ≤ d') (hp : ∀ I1 G1 J1, OutM I I1 G1 m p h 2 (Int32.ofInt 1) (mtF p D h P0 P1 P2 Q0 Q1 Q2 0) → post (some (.int (mtF p D h P0 P1 P2 Q0 Q1 Q2 0).1)) (St M (rg I1 m G1) J1)) : Ok K d' 133 [.ref m, .int z0, .int z1, .int z2] (St M (rg I m G) J) post := by
  refine Ok.up (d := d + 12) (post := post) ?_ hd (fun _ _ h => h)
  subst hz0 hz1 hz2
  refine Ok.go (e := me_133) rfl rfl (Nat.le_of_ble_eq_true rfl) hM.c ?_
  refine Rf.go 400 [] ?_
  refine And.intro hM.c ⟨m + 5, hM.r8, ?_⟩
  refine Or.inr (And.intro ⟨(hM.a60 (a := m + 5) (by omega)).1, inb60 (a := 0) hM (by omega)⟩ ?_)
  have w1 : ¬ cmpI .ne (rg I m G (m + 5) (nI g).toNatClampNeg) (Int32.ofInt 2) = true := by rw [show rg I m G (m + 5) (nI g).toNatClampNeg = nI 2 from (srt_at (by omega)).trans (so_g)]; decide
  refine And.intro (fun hb => absurd hb w1) (fun _ => ?_)
  refine And.intro hM.c ⟨m + 5, hM.r8, ?_⟩
  refine Or.inr (And.intro ⟨(hM.a60 (a := m + 5) (by omega)).1, inb60 (a := 0) hM (by omega)⟩ ?_)
  have w2 : cmpI .ne (rg I m G (m + 5) (nI k).toNatClampNeg) (Int32.ofInt 2) = true := by rw [show rg I m G (m + 5) (nI k).toNatClampNeg = nI 3 from (srt_at (by omega)).trans (so_k)]; decide
  refine And.intro (fun _ => ?_) (fun hb => absurd w2 hb)
  refine And.intro hM.c ⟨m + 5, hM.r8, ?_⟩
  refine Or.inr (And.intro ⟨(hM.a60 (a := m + 5) (by omega)).1, inb60 (a := 0) hM (by omega)⟩ ?_)
  refine And.intro hM.c ⟨m + 5, hM.r8, ?_⟩
  refine Or.inr (And.intro ⟨(hM.a60 (a := m + 5) (by omega)).1, inb60 (a := 0) hM (by omega)⟩ ?_)
  have w3 : ¬ cmpI .eq (rg I m G (m + 5) (nI g).toNatClampNeg) (rg I m G (m + 5) (nI k).toNatClampNeg) = true := by rw [show rg I m G (m + 5) (nI g).toNatClampNeg = nI 2 from (srt_at (by omega)).trans (so_g), show rg I m G (m + 5) (nI k).toNatClampNeg = nI 3 from (srt_at (by omega)).trans (so_k)]; decide
  refine And.intro (fun hb => absurd hb w3) (fun _ => ?_)
  refine And.intro hM.c ⟨m + 5, hM.r8, ?_⟩
  refine Or.inr (And.intro ⟨(hM.a60 (a := m + 5) (by omega)).1, inb60 (a := 0) hM (by omega)⟩ ?_)
  have w4 : ¬ cmpI .ne (rg I m G (m + 5) (nI g).toNatClampNeg) (Int32.ofInt 2) = true := by rw [show rg I m G (m + 5) (nI g).toNatClampNeg = nI 2 from (srt_at (by omega)).trans (so_g)]; decide
  refine And.intro (fun hb => absurd hb w4) (fun _ => ?_)
  refine And.intro (fun hb => absurd hb (by decide)) (fun _ => ?_)
  refine x_loadE (d := d) (r := 0) (a := g) (k := 0) (v := vE p D h P0) hM (by decide) rfl rfl (by decide) (by omega) (by omega) hP0 (by omega) (fun G5 J5 q5 f5 => ?_)
  refine And.intro (fun hb => absurd hb (by decide)) (fun _ => ?_)
  refine x_loadE (d := d) (r := 1) (a := g) (k := 1) (v := vE p D h P1) hM (by decide) rfl (by decide) (by decide) (by omega) (by omega) hP1 (by omega) (fun G6 J6 q6 f6 => ?_)
  refine And.intro (fun hb => absurd hb (by decide)) (fun _ => ?_)
  refine x_loadE (d := d) (r := 2) (a := g) (k := 2) (v := vE p D h P2) hM (by decide) rfl (by decide) (by decide) (by omega) (by omega) hP2 (by omega) (fun G7 J7 q7 f7 => ?_)
  refine And.intro (fun _ => ?_) (fun hb => absurd (by decide) hb)
  refine And.intro hM.c ⟨m + 5, hM.r8, ?_⟩
  refine Or.inr (And.intro ⟨(hM.a60 (a := m + 5) (by omega)).1, inb60 (a := 0) hM (by omega)⟩ ?_)
  have w8 : ¬ cmpI .ne (rg I m G7 (m + 5) (nI g).toNatClampNeg) (Int32.ofInt 2) = true := by rw [show rg I m G7 (m + 5) (nI g).toNatClampNeg = nI 2 from (srt_at (by omega)).trans (so_g)]; decide
  refine And.intro (fun hb => absurd hb w8) (fun _ => ?_)
  have q9 := ((f7 0 (by decide)).trans ((f6 0 (by decide)).trans q5))
  have q10 := ((f7 1 (by decide)).trans q6)
  refine M136_0 (d := d) (c := k) hM hA rfl rfl (by omega) q9 q10 q7 hQ0 hQ1 hQ2 h17 (by omega) (fun I9 G9 J9 o9 => ?_)
  exact ⟨rfl, hp I9 G9 J9 o9⟩
set_option maxHeartbeats 4000000 in
theorem M133_231 [NeZero p] {g k d' : Nat} {z0 z1 z2 : Int32} {P0 P1 P2 Q0 Q1 Q2 : TR p D h} {post : Option Value → Me → Prop} (hM : MoM M m) (hA : MoA I m p h D) (hz0 : z0 = nI g) (hz1 : z1 = nI k) (hz2 : z2 = nI 1) (hg : g < 60) (hk : k < 60) (hP0 : ∀ j, j < 8 → I (m + 7) (24 * g + 8 * 0 + j) = vE p D h P0 j) (hP1 : ∀ j, j < 8 → I (m + 7) (24 * g + 8 * 1 + j) = vE p D h P1 j) (hP2 : ∀ j, j < 8 → I (m + 7) (24 * g + 8 * 2 + j) = vE p D h P2 j) (hQ0 : ∀ j, j < 8 → I (m + 7) (24 * k + 8 * 0 + j) = vE p D h Q0 j) (hQ1 : ∀ j, j < 8 → I (m + 7) (24 * k + 8 * 1 + j) = vE p D h Q1 j) (hQ2 : ∀ j, j < 8 → I (m + 7) (24 * k + 8 * 2 + j) = vE p D h Q2 j) (so_g : I (m + 5) g = nI 2) (so_k : I (m + 5) k = nI 3) (h17 : I m 17 = nI 0) (hd : d + 12 ≤ d') (hp : ∀ I1 G1 J1, OutM I I1 G1 m p h 2 (Int32.ofInt 1) (mtF p D h P0 P1 P2 Q0 Q1 Q2 1) → post (some (.int (mtF p D h P0 P1 P2 Q0 Q1 Q2 1).1)) (St M (rg I1 m G1) J1)) : Ok K d' 133 [.ref m, .int z0, .int z1, .int z2] (St M (rg I m G) J) post := by
  refine Ok.up (d := d + 12) (post := post) ?_ hd (fun _ _ h => h)
  subst hz0 hz1 hz2
  refine Ok.go (e := me_133) rfl rfl (Nat.le_of_ble_eq_true rfl) hM.c ?_
  refine Rf.go 400 [] ?_
  refine And.intro hM.c ⟨m + 5, hM.r8, ?_⟩
  refine Or.inr (And.intro ⟨(hM.a60 (a := m + 5) (by omega)).1, inb60 (a := 0) hM (by omega)⟩ ?_)
  have w1 : ¬ cmpI .ne (rg I m G (m + 5) (nI g).toNatClampNeg) (Int32.ofInt 2) = true := by rw [show rg I m G (m + 5) (nI g).toNatClampNeg = nI 2 from (srt_at (by omega)).trans (so_g)]; decide
  refine And.intro (fun hb => absurd hb w1) (fun _ => ?_)
  refine And.intro hM.c ⟨m + 5, hM.r8, ?_⟩
  refine Or.inr (And.intro ⟨(hM.a60 (a := m + 5) (by omega)).1, inb60 (a := 0) hM (by omega)⟩ ?_)
  have w2 : cmpI .ne (rg I m G (m + 5) (nI k).toNatClampNeg) (Int32.ofInt 2) = true := by rw [show rg I m G (m + 5) (nI k).toNatClampNeg = nI 3 from (srt_at (by omega)).trans (so_k)]; decide
  refine And.intro (fun _ => ?_) (fun hb => absurd w2 hb)
  refine And.intro hM.c ⟨m + 5, hM.r8, ?_⟩
  refine Or.inr (And.intro ⟨(hM.a60 (a := m + 5) (by omega)).1, inb60 (a := 0) hM (by omega)⟩ ?_)
  refine And.intro hM.c ⟨m + 5, hM.r8, ?_⟩
  refine Or.inr (And.intro ⟨(hM.a60 (a := m + 5) (by omega)).1, inb60 (a := 0) hM (by omega)⟩ ?_)
  have w3 : ¬ cmpI .eq (rg I m G (m + 5) (nI g).toNatClampNeg) (rg I m G (m + 5) (nI k).toNatClampNeg) = true := by rw [show rg I m G (m + 5) (nI g).toNatClampNeg = nI 2 from (srt_at (by omega)).trans (so_g), show rg I m G (m + 5) (nI k).toNatClampNeg = nI 3 from (srt_at (by omega)).trans (so_k)]; decide
  refine And.intro (fun hb => absurd hb w3) (fun _ => ?_)
  refine And.intro hM.c ⟨m + 5, hM.r8, ?_⟩
  refine Or.inr (And.intro ⟨(hM.a60 (a := m + 5) (by omega)).1, inb60 (a := 0) hM (by omega)⟩ ?_)
  have w4 : ¬ cmpI .ne (rg I m G (m + 5) (nI g).toNatClampNeg) (Int32.ofInt 2) = true := by rw [show rg I m G (m + 5) (nI g).toNatClampNeg = nI 2 from (srt_at (by omega)).trans (so_g)]; decide
  refine And.intro (fun hb => absurd hb w4) (fun _ => ?_)
  refine And.intro (fun hb => absurd hb (by decide)) (fun _ => ?_)
  refine x_loadE (d := d) (r := 0) (a := g) (k := 0) (v := vE p D h P0) hM (by decide) rfl rfl (by decide) (by omega) (by omega) hP0 (by omega) (fun G5 J5 q5 f5 => ?_)
  refine And.intro (fun hb => absurd hb (by decide)) (fun _ => ?_)
  refine x_loadE (d := d) (r := 1) (a := g) (k := 1) (v := vE p D h P1) hM (by decide) rfl (by decide) (by decide) (by omega) (by omega) hP1 (by omega) (fun G6 J6 q6 f6 => ?_)
  refine And.intro (fun hb => absurd hb (by decide)) (fun _ => ?_)
  refine x_loadE (d := d) (r := 2) (a := g) (k := 2) (v := vE p D h P2) hM (by decide) rfl (by decide) (by decide) (by omega) (by omega) hP2 (by omega) (fun G7 J7 q7 f7 => ?_)
  refine And.intro (fun _ => ?_) (fun hb => absurd (by decide) hb)
  refine And.intro hM.c ⟨m + 5, hM.r8, ?_⟩
  refine Or.inr (And.intro ⟨(hM.a60 (a := m + 5) (by omega)).1, inb60 (a := 0) hM (by omega)⟩ ?_)
  have w8 : ¬ cmpI .ne (rg I m G7 (m + 5) (nI g).toNatClampNeg) (Int32.ofInt 2) = true := by rw [show rg I m G7 (m + 5) (nI g).toNatClampNeg = nI 2 from (srt_at (by omega)).trans (so_g)]; decide
  refine And.intro (fun hb => absurd hb w8) (fun _ => ?_)
  have q9 := ((f7 0 (by decide)).trans ((f6 0 (by decide)).trans q5))
  have q10 := ((f7 1 (by decide)).trans q6)
  refine M136_1 (d := d) (c := k) hM hA rfl rfl (by omega) q9 q10 q7 hQ0 hQ1 hQ2 h17 (by omega) (fun I9 G9 J9 o9 => ?_)
  exact ⟨rfl, hp I9 G9 J9 o9⟩
set_option maxHeartbeats 4000000 in
theorem M133_320 [NeZero p] {g k d' : Nat} {z0 z1 z2 : Int32} {P0 P1 P2 Q0 Q1 Q2 : TR p D h} {post : Option Value → Me → Prop} (hM : MoM M m) (hA : MoA I m p h D) (hz0 : z0 = nI g) (hz1 : z1 = nI k) (hz2 : z2 = nI 0) (hg : g < 60) (hk : k < 60) (hP0 : ∀ j, j < 8 → I (m + 7) (24 * g + 8 * 0 + j) = vE p D h P0 j) (hP1 : ∀ j, j < 8 → I (m + 7) (24 * g + 8 * 1 + j) = vE p D h P1 j) (hP2 : ∀ j, j < 8 → I (m + 7) (24 * g + 8 * 2 + j) = vE p D h P2 j) (hQ0 : ∀ j, j < 8 → I (m + 7) (24 * k + 8 * 0 + j) = vE p D h Q0 j) (hQ1 : ∀ j, j < 8 → I (m + 7) (24 * k + 8 * 1 + j) = vE p D h Q1 j) (hQ2 : ∀ j, j < 8 → I (m + 7) (24 * k + 8 * 2 + j) = vE p D h Q2 j) (so_g : I (m + 5) g = nI 3) (so_k : I (m + 5) k = nI 2) (h17 : I m 17 = nI 0) (hd : d + 12 ≤ d') (hp : ∀ I1 G1 J1, OutM I I1 G1 m p h 2 (Int32.ofInt 1) (mtF p D h Q0 Q1 Q2 P0 P1 P2 0) → post (some (.int (mtF p D h Q0 Q1 Q2 P0 P1 P2 0).1)) (St M (rg I1 m G1) J1)) : Ok K d' 133 [.ref m, .int z0, .int z1, .int z2] (St M (rg I m G) J) post := by
  refine Ok.up (d := d + 12) (post := post) ?_ hd (fun _ _ h => h)
  subst hz0 hz1 hz2
  refine Ok.go (e := me_133) rfl rfl (Nat.le_of_ble_eq_true rfl) hM.c ?_
  refine Rf.go 400 [] ?_
  refine And.intro hM.c ⟨m + 5, hM.r8, ?_⟩
  refine Or.inr (And.intro ⟨(hM.a60 (a := m + 5) (by omega)).1, inb60 (a := 0) hM (by omega)⟩ ?_)
  have w1 : cmpI .ne (rg I m G (m + 5) (nI g).toNatClampNeg) (Int32.ofInt 2) = true := by rw [show rg I m G (m + 5) (nI g).toNatClampNeg = nI 3 from (srt_at (by omega)).trans (so_g)]; decide
  refine And.intro (fun _ => ?_) (fun hb => absurd w1 hb)
  refine And.intro hM.c ⟨m + 5, hM.r8, ?_⟩
  refine Or.inr (And.intro ⟨(hM.a60 (a := m + 5) (by omega)).1, inb60 (a := 0) hM (by omega)⟩ ?_)
  refine And.intro hM.c ⟨m + 5, hM.r8, ?_⟩
  refine Or.inr (And.intro ⟨(hM.a60 (a := m + 5) (by omega)).1, inb60 (a := 0) hM (by omega)⟩ ?_)
  have w2 : ¬ cmpI .eq (rg I m G (m + 5) (nI g).toNatClampNeg) (rg I m G (m + 5) (nI k).toNatClampNeg) = true := by rw [show rg I m G (m + 5) (nI g).toNatClampNeg = nI 3 from (srt_at (by omega)).trans (so_g), show rg I m G (m + 5) (nI k).toNatClampNeg = nI 2 from (srt_at (by omega)).trans (so_k)]; decide
  refine And.intro (fun hb => absurd hb w2) (fun _ => ?_)
  refine And.intro hM.c ⟨m + 5, hM.r8, ?_⟩
  refine Or.inr (And.intro ⟨(hM.a60 (a := m + 5) (by omega)).1, inb60 (a := 0) hM (by omega)⟩ ?_)
  have w3 : cmpI .ne (rg I m G (m + 5) (nI g).toNatClampNeg) (Int32.ofInt 2) = true := by rw [show rg I m G (m + 5) (nI g).toNatClampNeg = nI 3 from (srt_at (by omega)).trans (so_g)]; decide
  refine And.intro (fun _ => ?_) (fun hb => absurd w3 hb)
  refine And.intro (fun hb => absurd hb (by decide)) (fun _ => ?_)
  refine x_loadE (d := d) (r := 0) (a := k) (k := 0) (v := vE p D h Q0) hM (by decide) rfl rfl (by decide) (by omega) (by omega) hQ0 (by omega) (fun G4 J4 q4 f4 => ?_)
  refine And.intro (fun hb => absurd hb (by decide)) (fun _ => ?_)
  refine x_loadE (d := d) (r := 1) (a := k) (k := 1) (v := vE p D h Q1) hM (by decide) rfl (by decide) (by decide) (by omega) (by omega) hQ1 (by omega) (fun G5 J5 q5 f5 => ?_)
  refine And.intro (fun hb => absurd hb (by decide)) (fun _ => ?_)
  refine x_loadE (d := d) (r := 2) (a := k) (k := 2) (v := vE p D h Q2) hM (by decide) rfl (by decide) (by decide) (by omega) (by omega) hQ2 (by omega) (fun G6 J6 q6 f6 => ?_)
  refine And.intro (fun _ => ?_) (fun hb => absurd (by decide) hb)
  refine And.intro hM.c ⟨m + 5, hM.r8, ?_⟩
  refine Or.inr (And.intro ⟨(hM.a60 (a := m + 5) (by omega)).1, inb60 (a := 0) hM (by omega)⟩ ?_)
  have w7 : cmpI .ne (rg I m G6 (m + 5) (nI g).toNatClampNeg) (Int32.ofInt 2) = true := by rw [show rg I m G6 (m + 5) (nI g).toNatClampNeg = nI 3 from (srt_at (by omega)).trans (so_g)]; decide
  refine And.intro (fun _ => ?_) (fun hb => absurd w7 hb)
  have q8 := ((f6 0 (by decide)).trans ((f5 0 (by decide)).trans q4))
  have q9 := ((f6 1 (by decide)).trans q5)
  refine M136_0 (d := d) (c := g) hM hA rfl rfl (by omega) q8 q9 q6 hP0 hP1 hP2 h17 (by omega) (fun I9 G9 J9 o9 => ?_)
  exact ⟨rfl, hp I9 G9 J9 o9⟩
set_option maxHeartbeats 4000000 in
theorem M133_321 [NeZero p] {g k d' : Nat} {z0 z1 z2 : Int32} {P0 P1 P2 Q0 Q1 Q2 : TR p D h} {post : Option Value → Me → Prop} (hM : MoM M m) (hA : MoA I m p h D) (hz0 : z0 = nI g) (hz1 : z1 = nI k) (hz2 : z2 = nI 1) (hg : g < 60) (hk : k < 60) (hP0 : ∀ j, j < 8 → I (m + 7) (24 * g + 8 * 0 + j) = vE p D h P0 j) (hP1 : ∀ j, j < 8 → I (m + 7) (24 * g + 8 * 1 + j) = vE p D h P1 j) (hP2 : ∀ j, j < 8 → I (m + 7) (24 * g + 8 * 2 + j) = vE p D h P2 j) (hQ0 : ∀ j, j < 8 → I (m + 7) (24 * k + 8 * 0 + j) = vE p D h Q0 j) (hQ1 : ∀ j, j < 8 → I (m + 7) (24 * k + 8 * 1 + j) = vE p D h Q1 j) (hQ2 : ∀ j, j < 8 → I (m + 7) (24 * k + 8 * 2 + j) = vE p D h Q2 j) (so_g : I (m + 5) g = nI 3) (so_k : I (m + 5) k = nI 2) (h17 : I m 17 = nI 0) (hd : d + 12 ≤ d') (hp : ∀ I1 G1 J1, OutM I I1 G1 m p h 2 (Int32.ofInt 1) (mtF p D h Q0 Q1 Q2 P0 P1 P2 1) → post (some (.int (mtF p D h Q0 Q1 Q2 P0 P1 P2 1).1)) (St M (rg I1 m G1) J1)) : Ok K d' 133 [.ref m, .int z0, .int z1, .int z2] (St M (rg I m G) J) post := by
  refine Ok.up (d := d + 12) (post := post) ?_ hd (fun _ _ h => h)
  subst hz0 hz1 hz2
  refine Ok.go (e := me_133) rfl rfl (Nat.le_of_ble_eq_true rfl) hM.c ?_
  refine Rf.go 400 [] ?_
  refine And.intro hM.c ⟨m + 5, hM.r8, ?_⟩
  refine Or.inr (And.intro ⟨(hM.a60 (a := m + 5) (by omega)).1, inb60 (a := 0) hM (by omega)⟩ ?_)
  have w1 : cmpI .ne (rg I m G (m + 5) (nI g).toNatClampNeg) (Int32.ofInt 2) = true := by rw [show rg I m G (m + 5) (nI g).toNatClampNeg = nI 3 from (srt_at (by omega)).trans (so_g)]; decide
  refine And.intro (fun _ => ?_) (fun hb => absurd w1 hb)
  refine And.intro hM.c ⟨m + 5, hM.r8, ?_⟩
  refine Or.inr (And.intro ⟨(hM.a60 (a := m + 5) (by omega)).1, inb60 (a := 0) hM (by omega)⟩ ?_)
  refine And.intro hM.c ⟨m + 5, hM.r8, ?_⟩
  refine Or.inr (And.intro ⟨(hM.a60 (a := m + 5) (by omega)).1, inb60 (a := 0) hM (by omega)⟩ ?_)
  have w2 : ¬ cmpI .eq (rg I m G (m + 5) (nI g).toNatClampNeg) (rg I m G (m + 5) (nI k).toNatClampNeg) = true := by rw [show rg I m G (m + 5) (nI g).toNatClampNeg = nI 3 from (srt_at (by omega)).trans (so_g), show rg I m G (m + 5) (nI k).toNatClampNeg = nI 2 from (srt_at (by omega)).trans (so_k)]; decide
  refine And.intro (fun hb => absurd hb w2) (fun _ => ?_)
  refine And.intro hM.c ⟨m + 5, hM.r8, ?_⟩
  refine Or.inr (And.intro ⟨(hM.a60 (a := m + 5) (by omega)).1, inb60 (a := 0) hM (by omega)⟩ ?_)
  have w3 : cmpI .ne (rg I m G (m + 5) (nI g).toNatClampNeg) (Int32.ofInt 2) = true := by rw [show rg I m G (m + 5) (nI g).toNatClampNeg = nI 3 from (srt_at (by omega)).trans (so_g)]; decide
  refine And.intro (fun _ => ?_) (fun hb => absurd w3 hb)
  refine And.intro (fun hb => absurd hb (by decide)) (fun _ => ?_)
  refine x_loadE (d := d) (r := 0) (a := k) (k := 0) (v := vE p D h Q0) hM (by decide) rfl rfl (by decide) (by omega) (by omega) hQ0 (by omega) (fun G4 J4 q4 f4 => ?_)
  refine And.intro (fun hb => absurd hb (by decide)) (fun _ => ?_)
  refine x_loadE (d := d) (r := 1) (a := k) (k := 1) (v := vE p D h Q1) hM (by decide) rfl (by decide) (by decide) (by omega) (by omega) hQ1 (by omega) (fun G5 J5 q5 f5 => ?_)
  refine And.intro (fun hb => absurd hb (by decide)) (fun _ => ?_)
  refine x_loadE (d := d) (r := 2) (a := k) (k := 2) (v := vE p D h Q2) hM (by decide) rfl (by decide) (by decide) (by omega) (by omega) hQ2 (by omega) (fun G6 J6 q6 f6 => ?_)
  refine And.intro (fun _ => ?_) (fun hb => absurd (by decide) hb)
  refine And.intro hM.c ⟨m + 5, hM.r8, ?_⟩
  refine Or.inr (And.intro ⟨(hM.a60 (a := m + 5) (by omega)).1, inb60 (a := 0) hM (by omega)⟩ ?_)
  have w7 : cmpI .ne (rg I m G6 (m + 5) (nI g).toNatClampNeg) (Int32.ofInt 2) = true := by rw [show rg I m G6 (m + 5) (nI g).toNatClampNeg = nI 3 from (srt_at (by omega)).trans (so_g)]; decide
  refine And.intro (fun _ => ?_) (fun hb => absurd w7 hb)
  have q8 := ((f6 0 (by decide)).trans ((f5 0 (by decide)).trans q4))
  have q9 := ((f6 1 (by decide)).trans q5)
  refine M136_1 (d := d) (c := g) hM hA rfl rfl (by omega) q8 q9 q6 hP0 hP1 hP2 h17 (by omega) (fun I9 G9 J9 o9 => ?_)
  exact ⟨rfl, hp I9 G9 J9 o9⟩
set_option maxHeartbeats 4000000 in
theorem M133_330 [NeZero p] {g k d' : Nat} {z0 z1 z2 : Int32} {P0 P1 P2 Q0 Q1 Q2 : TR p D h} {post : Option Value → Me → Prop} (hM : MoM M m) (hA : MoA I m p h D) (hz0 : z0 = nI g) (hz1 : z1 = nI k) (hz2 : z2 = nI 0) (hg : g < 60) (hk : k < 60) (hP0 : ∀ j, j < 8 → I (m + 7) (24 * g + 8 * 0 + j) = vE p D h P0 j) (hP1 : ∀ j, j < 8 → I (m + 7) (24 * g + 8 * 1 + j) = vE p D h P1 j) (hP2 : ∀ j, j < 8 → I (m + 7) (24 * g + 8 * 2 + j) = vE p D h P2 j) (hQ0 : ∀ j, j < 8 → I (m + 7) (24 * k + 8 * 0 + j) = vE p D h Q0 j) (hQ1 : ∀ j, j < 8 → I (m + 7) (24 * k + 8 * 1 + j) = vE p D h Q1 j) (hQ2 : ∀ j, j < 8 → I (m + 7) (24 * k + 8 * 2 + j) = vE p D h Q2 j) (so_g : I (m + 5) g = nI 3) (so_k : I (m + 5) k = nI 3) (h17 : I m 17 = nI 0) (hd : d + 12 ≤ d') (hp : ∀ I1 G1 J1, OutM I I1 G1 m p h 2 (Int32.ofInt 1) (ccF p D h P0 P1 P2 Q0 Q1 Q2 0) → post (some (.int (ccF p D h P0 P1 P2 Q0 Q1 Q2 0).1)) (St M (rg I1 m G1) J1)) : Ok K d' 133 [.ref m, .int z0, .int z1, .int z2] (St M (rg I m G) J) post := by
  refine Ok.up (d := d + 12) (post := post) ?_ hd (fun _ _ h => h)
  subst hz0 hz1 hz2
  refine Ok.go (e := me_133) rfl rfl (Nat.le_of_ble_eq_true rfl) hM.c ?_
  refine Rf.go 400 [] ?_
  refine And.intro hM.c ⟨m + 5, hM.r8, ?_⟩
  refine Or.inr (And.intro ⟨(hM.a60 (a := m + 5) (by omega)).1, inb60 (a := 0) hM (by omega)⟩ ?_)
  have w1 : cmpI .ne (rg I m G (m + 5) (nI g).toNatClampNeg) (Int32.ofInt 2) = true := by rw [show rg I m G (m + 5) (nI g).toNatClampNeg = nI 3 from (srt_at (by omega)).trans (so_g)]; decide
  refine And.intro (fun _ => ?_) (fun hb => absurd w1 hb)
  refine And.intro hM.c ⟨m + 5, hM.r8, ?_⟩
  refine Or.inr (And.intro ⟨(hM.a60 (a := m + 5) (by omega)).1, inb60 (a := 0) hM (by omega)⟩ ?_)
  refine And.intro hM.c ⟨m + 5, hM.r8, ?_⟩
  refine Or.inr (And.intro ⟨(hM.a60 (a := m + 5) (by omega)).1, inb60 (a := 0) hM (by omega)⟩ ?_)
  have w2 : cmpI .eq (rg I m G (m + 5) (nI g).toNatClampNeg) (rg I m G (m + 5) (nI k).toNatClampNeg) = true := by rw [show rg I m G (m + 5) (nI g).toNatClampNeg = nI 3 from (srt_at (by omega)).trans (so_g), show rg I m G (m + 5) (nI k).toNatClampNeg = nI 3 from (srt_at (by omega)).trans (so_k)]; decide
  refine And.intro (fun _ => ?_) (fun hb => absurd w2 hb)
  refine x_set0 (d := d) (p := p) (D := D) (h := h) (r := 2) hM rfl (by decide) (by have := hA.1.2.2.2.1.1; omega) (by omega) (fun G3 J3 q3 f3 => ?_)
  refine And.intro (fun hb => absurd hb (by decide)) (fun _ => ?_)
  refine x_loadE (d := d) (r := 3) (a := g) (k := 0) (v := vE p D h P0) hM rfl rfl rfl (by decide) (by omega) (by omega) hP0 (by omega) (fun G4 J4 q4 f4 => ?_)
  refine x_loadE (d := d) (r := 4) (a := k) (k := 0) (v := vE p D h Q0) hM rfl rfl rfl (by decide) (by omega) (by omega) hQ0 (by omega) (fun G5 J5 q5 f5 => ?_)
  refine And.intro (fun hb => absurd hb (by decide)) (fun _ => ?_)
  have q6 := ((f5 3 (by decide)).trans q4)
  refine m_isSame (d := d) (a := 3) (b := 4) hM rfl rfl (by decide) (by decide) hA.1.2.2.1 hA.1.2.2.2.1.2 q6 q5 (by omega) (fun z7 => ?_) (fun z7 => ?_)
  · refine And.intro (fun hb => absurd hb (by decide)) (fun _ => ?_)
    refine x_less (d := d) (r := 5) (a := 4) (b := 3) hM rfl rfl rfl (by decide) (by decide) (by decide) hA.1.1 hA.1.2.2.2.1.2 q5 q6 (by omega) (fun G8 J8 q8 f8 => ?_)
    refine x_add (d := d) (r := 0) (a := 5) (b := 5) hM (by decide) rfl rfl (by decide) (by decide) (by decide) hA.1.1 hA.1.2.2.2.1.2 q8 q8 (by omega) (fun G9 J9 q9 f9 => ?_)
    have q10 := ((f9 3 (by decide)).trans ((f8 3 (by decide)).trans q6))
    refine x_times (d := d) (r := 3) (a := 3) (b := 3) hM hA.1 rfl rfl rfl (by decide) (by decide) (by decide) q10 q10 (by omega) (fun G11 J11 q11 f11 => ?_)
    have q12 := ((f11 4 (by decide)).trans ((f9 4 (by decide)).trans ((f8 4 (by decide)).trans q5)))
    refine x_times (d := d) (r := 4) (a := 4) (b := 4) hM hA.1 rfl rfl rfl (by decide) (by decide) (by decide) q12 q12 (by omega) (fun G13 J13 q13 f13 => ?_)
    have q14 := ((f13 2 (by decide)).trans ((f11 2 (by decide)).trans ((f9 2 (by decide)).trans ((f8 2 (by decide)).trans ((f5 2 (by decide)).trans ((f4 2 (by decide)).trans q3))))))
    have q15 := ((f13 3 (by decide)).trans q11)
    refine x_add (d := d) (r := 2) (a := 2) (b := 3) hM rfl rfl rfl (by decide) (by decide) (by decide) hA.1.1 hA.1.2.2.2.1.2 q14 q15 (by omega) (fun G16 J16 q16 f16 => ?_)
    have q17 := ((f16 4 (by decide)).trans q13)
    refine x_less (d := d) (r := 2) (a := 2) (b := 4) hM rfl rfl rfl (by decide) (by decide) (by decide) hA.1.1 hA.1.2.2.2.1.2 q16 q17 (by omega) (fun G18 J18 q18 f18 => ?_)
    refine And.intro (fun hb => absurd hb (by decide)) (fun _ => ?_)
    refine x_loadE (d := d) (r := 3) (a := g) (k := 1) (v := vE p D h P1) hM rfl rfl (by decide) (by decide) (by omega) (by omega) hP1 (by omega) (fun G19 J19 q19 f19 => ?_)
    refine x_loadE (d := d) (r := 4) (a := k) (k := 1) (v := vE p D h Q1) hM rfl rfl (by decide) (by decide) (by omega) (by omega) hQ1 (by omega) (fun G20 J20 q20 f20 => ?_)
    refine And.intro (fun hb => absurd hb (by decide)) (fun _ => ?_)
    have q21 := ((f20 3 (by decide)).trans q19)
    refine m_isSame (d := d) (a := 3) (b := 4) hM rfl rfl (by decide) (by decide) hA.1.2.2.1 hA.1.2.2.2.1.2 q21 q20 (by omega) (fun z22 => ?_) (fun z22 => ?_)
    · refine And.intro (fun hb => absurd hb (by decide)) (fun _ => ?_)
      refine x_less (d := d) (r := 5) (a := 4) (b := 3) hM rfl rfl rfl (by decide) (by decide) (by decide) hA.1.1 hA.1.2.2.2.1.2 q20 q21 (by omega) (fun G23 J23 q23 f23 => ?_)
      refine x_add (d := d) (r := 1) (a := 5) (b := 5) hM (by decide) rfl rfl (by decide) (by decide) (by decide) hA.1.1 hA.1.2.2.2.1.2 q23 q23 (by omega) (fun G24 J24 q24 f24 => ?_)
      have q25 := ((f24 3 (by decide)).trans ((f23 3 (by decide)).trans q21))
      refine x_times (d := d) (r := 3) (a := 3) (b := 3) hM hA.1 rfl rfl rfl (by decide) (by decide) (by decide) q25 q25 (by omega) (fun G26 J26 q26 f26 => ?_)
      have q27 := ((f26 4 (by decide)).trans ((f24 4 (by decide)).trans ((f23 4 (by decide)).trans q20)))
      refine x_times (d := d) (r := 4) (a := 4) (b := 4) hM hA.1 rfl rfl rfl (by decide) (by decide) (by decide) q27 q27 (by omega) (fun G28 J28 q28 f28 => ?_)
      have q29 := ((f28 2 (by decide)).trans ((f26 2 (by decide)).trans ((f24 2 (by decide)).trans ((f23 2 (by decide)).trans ((f20 2 (by decide)).trans ((f19 2 (by decide)).trans q18))))))
      have q30 := ((f28 3 (by decide)).trans q26)
      refine x_add (d := d) (r := 2) (a := 2) (b := 3) hM rfl rfl rfl (by decide) (by decide) (by decide) hA.1.1 hA.1.2.2.2.1.2 q29 q30 (by omega) (fun G31 J31 q31 f31 => ?_)
      have q32 := ((f31 4 (by decide)).trans q28)
      refine x_less (d := d) (r := 2) (a := 2) (b := 4) hM rfl rfl rfl (by decide) (by decide) (by decide) hA.1.1 hA.1.2.2.2.1.2 q31 q32 (by omega) (fun G33 J33 q33 f33 => ?_)
      refine And.intro (fun _ => ?_) (fun hb => absurd (by decide) hb)
      refine And.intro (fun hb => absurd hb (by decide)) (fun _ => ?_)
      refine m_areOne (d := d) (s := g) (t := k) hM hA.1.2.2.1 hA.1.2.2.2.1.2 rfl rfl (by omega) (by omega) (so_g.trans so_k.symm) hP0 hP1 hP2 hQ0 hQ1 hQ2 (by omega) (fun z34 => ?_) (fun z34 => ?_)
      · refine And.intro (fun hb => absurd hb (by decide)) (fun _ => ?_)
        rw [show ccF p D h P0 P1 P2 Q0 Q1 Q2 0 = rzN (Int32.ofInt (-3)) D h from (if_pos ⟨z7, z22⟩).trans (if_pos z34.2.2)] at hp
        exact ⟨rfl, hp I G33 J33 (OutM.no (by decide) hA h17 FrX.refl)⟩
      · refine And.intro (fun _ => ?_) (fun hb => absurd (by decide) hb)
        rw [show ccF p D h P0 P1 P2 Q0 Q1 Q2 0 = rzN (Int32.ofInt (-4)) D h from (if_pos ⟨z7, z22⟩).trans (if_neg (fun w => z34 ⟨z7, z22, w⟩))] at hp
        exact ⟨rfl, hp I G33 J33 (OutM.no (by decide) hA h17 FrX.refl)⟩
    · refine And.intro (fun _ => ?_) (fun hb => absurd (by decide) hb)
      refine x_less (d := d) (r := 5) (a := 4) (b := 3) hM rfl rfl rfl (by decide) (by decide) (by decide) hA.1.1 hA.1.2.2.2.1.2 q20 q21 (by omega) (fun G35 J35 q35 f35 => ?_)
      refine x_add (d := d) (r := 1) (a := 5) (b := 5) hM (by decide) rfl rfl (by decide) (by decide) (by decide) hA.1.1 hA.1.2.2.2.1.2 q35 q35 (by omega) (fun G36 J36 q36 f36 => ?_)
      have q37 := ((f36 3 (by decide)).trans ((f35 3 (by decide)).trans q21))
      refine x_times (d := d) (r := 3) (a := 3) (b := 3) hM hA.1 rfl rfl rfl (by decide) (by decide) (by decide) q37 q37 (by omega) (fun G38 J38 q38 f38 => ?_)
      have q39 := ((f38 4 (by decide)).trans ((f36 4 (by decide)).trans ((f35 4 (by decide)).trans q20)))
      refine x_times (d := d) (r := 4) (a := 4) (b := 4) hM hA.1 rfl rfl rfl (by decide) (by decide) (by decide) q39 q39 (by omega) (fun G40 J40 q40 f40 => ?_)
      have q41 := ((f40 2 (by decide)).trans ((f38 2 (by decide)).trans ((f36 2 (by decide)).trans ((f35 2 (by decide)).trans ((f20 2 (by decide)).trans ((f19 2 (by decide)).trans q18))))))
      have q42 := ((f40 3 (by decide)).trans q38)
      refine x_add (d := d) (r := 2) (a := 2) (b := 3) hM rfl rfl rfl (by decide) (by decide) (by decide) hA.1.1 hA.1.2.2.2.1.2 q41 q42 (by omega) (fun G43 J43 q43 f43 => ?_)
      have q44 := ((f43 4 (by decide)).trans q40)
      refine x_less (d := d) (r := 2) (a := 2) (b := 4) hM rfl rfl rfl (by decide) (by decide) (by decide) hA.1.1 hA.1.2.2.2.1.2 q43 q44 (by omega) (fun G45 J45 q45 f45 => ?_)
      refine And.intro (fun _ => ?_) (fun hb => absurd (by decide) hb)
      refine And.intro (fun _ => ?_) (fun hb => absurd (by decide) hb)
      refine x_loadE (d := d) (r := 3) (a := g) (k := 2) (v := vE p D h P2) hM rfl rfl rfl (by decide) (by omega) (by omega) hP2 (by omega) (fun G46 J46 q46 f46 => ?_)
      refine x_loadE (d := d) (r := 4) (a := k) (k := 2) (v := vE p D h Q2) hM rfl rfl rfl (by decide) (by omega) (by omega) hQ2 (by omega) (fun G47 J47 q47 f47 => ?_)
      have q48 := ((f47 2 (by decide)).trans ((f46 2 (by decide)).trans q45))
      have q49 := ((f47 3 (by decide)).trans q46)
      refine x_less (d := d) (r := 2) (a := 2) (b := 3) hM rfl rfl rfl (by decide) (by decide) (by decide) hA.1.1 hA.1.2.2.2.1.2 q48 q49 (by omega) (fun G50 J50 q50 f50 => ?_)
      have q51 := ((f50 4 (by decide)).trans q47)
      refine x_add (d := d) (r := 2) (a := 2) (b := 4) hM rfl rfl rfl (by decide) (by decide) (by decide) hA.1.1 hA.1.2.2.2.1.2 q50 q51 (by omega) (fun G52 J52 q52 f52 => ?_)
      rw [show ((TI p D h).add ((TI p D h).sub ((TI p D h).sub ((TI p D h).add ((TI p D h).sub ((TI p D h).add ((TI p D h).ofNat 0).ofNat ((TI p D h).mul P0 P0)) ((TI p D h).mul Q0 Q0)) ((TI p D h).mul P1 P1)) ((TI p D h).mul Q1 Q1)) P2) Q2) = ((TI p D h).sub ((TI p D h).sub ((TI p D h).add ((TI p D h).mul P0 P0) ((TI p D h).mul P1 P1)) P2) ((TI p D h).sub ((TI p D h).add ((TI p D h).mul Q0 Q0) ((TI p D h).mul Q1 Q1)) Q2)) from @cr3 (TR p D h) (TI p D h) _ _ _ _ _ _] at q52
      have q53 := ((f52 0 (by decide)).trans ((f50 0 (by decide)).trans ((f47 0 (by decide)).trans ((f46 0 (by decide)).trans ((f45 0 (by decide)).trans ((f43 0 (by decide)).trans ((f40 0 (by decide)).trans ((f38 0 (by decide)).trans ((f36 0 (by decide)).trans ((f35 0 (by decide)).trans ((f20 0 (by decide)).trans ((f19 0 (by decide)).trans ((f18 0 (by decide)).trans ((f16 0 (by decide)).trans ((f13 0 (by decide)).trans ((f11 0 (by decide)).trans q9))))))))))))))))
      have q54 := ((f52 1 (by decide)).trans ((f50 1 (by decide)).trans ((f47 1 (by decide)).trans ((f46 1 (by decide)).trans ((f45 1 (by decide)).trans ((f43 1 (by decide)).trans ((f40 1 (by decide)).trans ((f38 1 (by decide)).trans q36))))))))
      refine M125 (d := d) hM hA q53 q54 q52 (by omega) (fun G55 J55 q55a q55b q55c f55 => ?_)
      have hA56 := hA.put (x := Int32.ofInt 2) (q := 16) (by decide) (by decide)
      refine M136_0 (d := d) (c := g) hM hA56 rfl rfl (by omega) q55a q55b q55c (fun j hj => (congrFun (u2_ne (f := I) (j := 16) (v := Int32.ofInt 2) (show m + 7 ≠ m by omega)) _).trans (hP0 j hj)) (fun j hj => (congrFun (u2_ne (f := I) (j := 16) (v := Int32.ofInt 2) (show m + 7 ≠ m by omega)) _).trans (hP1 j hj)) (fun j hj => (congrFun (u2_ne (f := I) (j := 16) (v := Int32.ofInt 2) (show m + 7 ≠ m by omega)) _).trans (hP2 j hj)) (by rw [u2_at, if_neg (by decide)]; exact h17) (by omega) (fun I9 G9 J9 o9 => ?_)
      rw [show ccF p D h P0 P1 P2 Q0 Q1 Q2 0 = mtF p D h ((TI p D h).mul ((TI p D h).add ((TI p D h).sub Q0 P0) ((TI p D h).sub Q0 P0)) (iv p D h (ldE p D h ((TI p D h).add ((TI p D h).sub Q0 P0) ((TI p D h).sub Q0 P0)) ((TI p D h).add ((TI p D h).sub Q1 P1) ((TI p D h).sub Q1 P1))))) ((TI p D h).mul ((TI p D h).add ((TI p D h).sub Q1 P1) ((TI p D h).sub Q1 P1)) (iv p D h (ldE p D h ((TI p D h).add ((TI p D h).sub Q0 P0) ((TI p D h).sub Q0 P0)) ((TI p D h).add ((TI p D h).sub Q1 P1) ((TI p D h).sub Q1 P1))))) ((TI p D h).mul ((TI p D h).sub ((TI p D h).sub ((TI p D h).add ((TI p D h).mul P0 P0) ((TI p D h).mul P1 P1)) P2) ((TI p D h).sub ((TI p D h).add ((TI p D h).mul Q0 Q0) ((TI p D h).mul Q1 Q1)) Q2)) (iv p D h (ldE p D h ((TI p D h).add ((TI p D h).sub Q0 P0) ((TI p D h).sub Q0 P0)) ((TI p D h).add ((TI p D h).sub Q1 P1) ((TI p D h).sub Q1 P1))))) P0 P1 P2 0 from if_neg (fun w => z22 w.2)] at hp
      exact ⟨rfl, hp I9 G9 J9 (OutM.from (FrX.refl.put (Or.inl rfl)) o9)⟩
  · refine And.intro (fun _ => ?_) (fun hb => absurd (by decide) hb)
    refine x_less (d := d) (r := 5) (a := 4) (b := 3) hM rfl rfl rfl (by decide) (by decide) (by decide) hA.1.1 hA.1.2.2.2.1.2 q5 q6 (by omega) (fun G57 J57 q57 f57 => ?_)
    refine x_add (d := d) (r := 0) (a := 5) (b := 5) hM (by decide) rfl rfl (by decide) (by decide) (by decide) hA.1.1 hA.1.2.2.2.1.2 q57 q57 (by omega) (fun G58 J58 q58 f58 => ?_)
    have q59 := ((f58 3 (by decide)).trans ((f57 3 (by decide)).trans q6))
    refine x_times (d := d) (r := 3) (a := 3) (b := 3) hM hA.1 rfl rfl rfl (by decide) (by decide) (by decide) q59 q59 (by omega) (fun G60 J60 q60 f60 => ?_)
    have q61 := ((f60 4 (by decide)).trans ((f58 4 (by decide)).trans ((f57 4 (by decide)).trans q5)))
    refine x_times (d := d) (r := 4) (a := 4) (b := 4) hM hA.1 rfl rfl rfl (by decide) (by decide) (by decide) q61 q61 (by omega) (fun G62 J62 q62 f62 => ?_)
    have q63 := ((f62 2 (by decide)).trans ((f60 2 (by decide)).trans ((f58 2 (by decide)).trans ((f57 2 (by decide)).trans ((f5 2 (by decide)).trans ((f4 2 (by decide)).trans q3))))))
    have q64 := ((f62 3 (by decide)).trans q60)
    refine x_add (d := d) (r := 2) (a := 2) (b := 3) hM rfl rfl rfl (by decide) (by decide) (by decide) hA.1.1 hA.1.2.2.2.1.2 q63 q64 (by omega) (fun G65 J65 q65 f65 => ?_)
    have q66 := ((f65 4 (by decide)).trans q62)
    refine x_less (d := d) (r := 2) (a := 2) (b := 4) hM rfl rfl rfl (by decide) (by decide) (by decide) hA.1.1 hA.1.2.2.2.1.2 q65 q66 (by omega) (fun G67 J67 q67 f67 => ?_)
    refine And.intro (fun hb => absurd hb (by decide)) (fun _ => ?_)
    refine x_loadE (d := d) (r := 3) (a := g) (k := 1) (v := vE p D h P1) hM rfl rfl (by decide) (by decide) (by omega) (by omega) hP1 (by omega) (fun G68 J68 q68 f68 => ?_)
    refine x_loadE (d := d) (r := 4) (a := k) (k := 1) (v := vE p D h Q1) hM rfl rfl (by decide) (by decide) (by omega) (by omega) hQ1 (by omega) (fun G69 J69 q69 f69 => ?_)
    refine And.intro (fun _ => ?_) (fun hb => absurd (by decide) hb)
    have q70 := ((f69 3 (by decide)).trans q68)
    refine x_less (d := d) (r := 5) (a := 4) (b := 3) hM rfl rfl rfl (by decide) (by decide) (by decide) hA.1.1 hA.1.2.2.2.1.2 q69 q70 (by omega) (fun G71 J71 q71 f71 => ?_)
    refine x_add (d := d) (r := 1) (a := 5) (b := 5) hM (by decide) rfl rfl (by decide) (by decide) (by decide) hA.1.1 hA.1.2.2.2.1.2 q71 q71 (by omega) (fun G72 J72 q72 f72 => ?_)
    have q73 := ((f72 3 (by decide)).trans ((f71 3 (by decide)).trans q70))
    refine x_times (d := d) (r := 3) (a := 3) (b := 3) hM hA.1 rfl rfl rfl (by decide) (by decide) (by decide) q73 q73 (by omega) (fun G74 J74 q74 f74 => ?_)
    have q75 := ((f74 4 (by decide)).trans ((f72 4 (by decide)).trans ((f71 4 (by decide)).trans q69)))
    refine x_times (d := d) (r := 4) (a := 4) (b := 4) hM hA.1 rfl rfl rfl (by decide) (by decide) (by decide) q75 q75 (by omega) (fun G76 J76 q76 f76 => ?_)
    have q77 := ((f76 2 (by decide)).trans ((f74 2 (by decide)).trans ((f72 2 (by decide)).trans ((f71 2 (by decide)).trans ((f69 2 (by decide)).trans ((f68 2 (by decide)).trans q67))))))
    have q78 := ((f76 3 (by decide)).trans q74)
    refine x_add (d := d) (r := 2) (a := 2) (b := 3) hM rfl rfl rfl (by decide) (by decide) (by decide) hA.1.1 hA.1.2.2.2.1.2 q77 q78 (by omega) (fun G79 J79 q79 f79 => ?_)
    have q80 := ((f79 4 (by decide)).trans q76)
    refine x_less (d := d) (r := 2) (a := 2) (b := 4) hM rfl rfl rfl (by decide) (by decide) (by decide) hA.1.1 hA.1.2.2.2.1.2 q79 q80 (by omega) (fun G81 J81 q81 f81 => ?_)
    refine And.intro (fun _ => ?_) (fun hb => absurd (by decide) hb)
    refine And.intro (fun _ => ?_) (fun hb => absurd (by decide) hb)
    refine x_loadE (d := d) (r := 3) (a := g) (k := 2) (v := vE p D h P2) hM rfl rfl rfl (by decide) (by omega) (by omega) hP2 (by omega) (fun G82 J82 q82 f82 => ?_)
    refine x_loadE (d := d) (r := 4) (a := k) (k := 2) (v := vE p D h Q2) hM rfl rfl rfl (by decide) (by omega) (by omega) hQ2 (by omega) (fun G83 J83 q83 f83 => ?_)
    have q84 := ((f83 2 (by decide)).trans ((f82 2 (by decide)).trans q81))
    have q85 := ((f83 3 (by decide)).trans q82)
    refine x_less (d := d) (r := 2) (a := 2) (b := 3) hM rfl rfl rfl (by decide) (by decide) (by decide) hA.1.1 hA.1.2.2.2.1.2 q84 q85 (by omega) (fun G86 J86 q86 f86 => ?_)
    have q87 := ((f86 4 (by decide)).trans q83)
    refine x_add (d := d) (r := 2) (a := 2) (b := 4) hM rfl rfl rfl (by decide) (by decide) (by decide) hA.1.1 hA.1.2.2.2.1.2 q86 q87 (by omega) (fun G88 J88 q88 f88 => ?_)
    rw [show ((TI p D h).add ((TI p D h).sub ((TI p D h).sub ((TI p D h).add ((TI p D h).sub ((TI p D h).add ((TI p D h).ofNat 0).ofNat ((TI p D h).mul P0 P0)) ((TI p D h).mul Q0 Q0)) ((TI p D h).mul P1 P1)) ((TI p D h).mul Q1 Q1)) P2) Q2) = ((TI p D h).sub ((TI p D h).sub ((TI p D h).add ((TI p D h).mul P0 P0) ((TI p D h).mul P1 P1)) P2) ((TI p D h).sub ((TI p D h).add ((TI p D h).mul Q0 Q0) ((TI p D h).mul Q1 Q1)) Q2)) from @cr3 (TR p D h) (TI p D h) _ _ _ _ _ _] at q88
    have q89 := ((f88 0 (by decide)).trans ((f86 0 (by decide)).trans ((f83 0 (by decide)).trans ((f82 0 (by decide)).trans ((f81 0 (by decide)).trans ((f79 0 (by decide)).trans ((f76 0 (by decide)).trans ((f74 0 (by decide)).trans ((f72 0 (by decide)).trans ((f71 0 (by decide)).trans ((f69 0 (by decide)).trans ((f68 0 (by decide)).trans ((f67 0 (by decide)).trans ((f65 0 (by decide)).trans ((f62 0 (by decide)).trans ((f60 0 (by decide)).trans q58))))))))))))))))
    have q90 := ((f88 1 (by decide)).trans ((f86 1 (by decide)).trans ((f83 1 (by decide)).trans ((f82 1 (by decide)).trans ((f81 1 (by decide)).trans ((f79 1 (by decide)).trans ((f76 1 (by decide)).trans ((f74 1 (by decide)).trans q72))))))))
    refine M125 (d := d) hM hA q89 q90 q88 (by omega) (fun G91 J91 q91a q91b q91c f91 => ?_)
    have hA92 := hA.put (x := Int32.ofInt 2) (q := 16) (by decide) (by decide)
    refine M136_0 (d := d) (c := g) hM hA92 rfl rfl (by omega) q91a q91b q91c (fun j hj => (congrFun (u2_ne (f := I) (j := 16) (v := Int32.ofInt 2) (show m + 7 ≠ m by omega)) _).trans (hP0 j hj)) (fun j hj => (congrFun (u2_ne (f := I) (j := 16) (v := Int32.ofInt 2) (show m + 7 ≠ m by omega)) _).trans (hP1 j hj)) (fun j hj => (congrFun (u2_ne (f := I) (j := 16) (v := Int32.ofInt 2) (show m + 7 ≠ m by omega)) _).trans (hP2 j hj)) (by rw [u2_at, if_neg (by decide)]; exact h17) (by omega) (fun I9 G9 J9 o9 => ?_)
    rw [show ccF p D h P0 P1 P2 Q0 Q1 Q2 0 = mtF p D h ((TI p D h).mul ((TI p D h).add ((TI p D h).sub Q0 P0) ((TI p D h).sub Q0 P0)) (iv p D h (ldE p D h ((TI p D h).add ((TI p D h).sub Q0 P0) ((TI p D h).sub Q0 P0)) ((TI p D h).add ((TI p D h).sub Q1 P1) ((TI p D h).sub Q1 P1))))) ((TI p D h).mul ((TI p D h).add ((TI p D h).sub Q1 P1) ((TI p D h).sub Q1 P1)) (iv p D h (ldE p D h ((TI p D h).add ((TI p D h).sub Q0 P0) ((TI p D h).sub Q0 P0)) ((TI p D h).add ((TI p D h).sub Q1 P1) ((TI p D h).sub Q1 P1))))) ((TI p D h).mul ((TI p D h).sub ((TI p D h).sub ((TI p D h).add ((TI p D h).mul P0 P0) ((TI p D h).mul P1 P1)) P2) ((TI p D h).sub ((TI p D h).add ((TI p D h).mul Q0 Q0) ((TI p D h).mul Q1 Q1)) Q2)) (iv p D h (ldE p D h ((TI p D h).add ((TI p D h).sub Q0 P0) ((TI p D h).sub Q0 P0)) ((TI p D h).add ((TI p D h).sub Q1 P1) ((TI p D h).sub Q1 P1))))) P0 P1 P2 0 from if_neg (fun w => z7 w.1)] at hp
    exact ⟨rfl, hp I9 G9 J9 (OutM.from (FrX.refl.put (Or.inl rfl)) o9)⟩
set_option maxHeartbeats 4000000 in
theorem M133_331 [NeZero p] {g k d' : Nat} {z0 z1 z2 : Int32} {P0 P1 P2 Q0 Q1 Q2 : TR p D h} {post : Option Value → Me → Prop} (hM : MoM M m) (hA : MoA I m p h D) (hz0 : z0 = nI g) (hz1 : z1 = nI k) (hz2 : z2 = nI 1) (hg : g < 60) (hk : k < 60) (hP0 : ∀ j, j < 8 → I (m + 7) (24 * g + 8 * 0 + j) = vE p D h P0 j) (hP1 : ∀ j, j < 8 → I (m + 7) (24 * g + 8 * 1 + j) = vE p D h P1 j) (hP2 : ∀ j, j < 8 → I (m + 7) (24 * g + 8 * 2 + j) = vE p D h P2 j) (hQ0 : ∀ j, j < 8 → I (m + 7) (24 * k + 8 * 0 + j) = vE p D h Q0 j) (hQ1 : ∀ j, j < 8 → I (m + 7) (24 * k + 8 * 1 + j) = vE p D h Q1 j) (hQ2 : ∀ j, j < 8 → I (m + 7) (24 * k + 8 * 2 + j) = vE p D h Q2 j) (so_g : I (m + 5) g = nI 3) (so_k : I (m + 5) k = nI 3) (h17 : I m 17 = nI 0) (hd : d + 12 ≤ d') (hp : ∀ I1 G1 J1, OutM I I1 G1 m p h 2 (Int32.ofInt 1) (ccF p D h P0 P1 P2 Q0 Q1 Q2 1) → post (some (.int (ccF p D h P0 P1 P2 Q0 Q1 Q2 1).1)) (St M (rg I1 m G1) J1)) : Ok K d' 133 [.ref m, .int z0, .int z1, .int z2] (St M (rg I m G) J) post := by
  refine Ok.up (d := d + 12) (post := post) ?_ hd (fun _ _ h => h)
  subst hz0 hz1 hz2
  refine Ok.go (e := me_133) rfl rfl (Nat.le_of_ble_eq_true rfl) hM.c ?_
  refine Rf.go 400 [] ?_
  refine And.intro hM.c ⟨m + 5, hM.r8, ?_⟩
  refine Or.inr (And.intro ⟨(hM.a60 (a := m + 5) (by omega)).1, inb60 (a := 0) hM (by omega)⟩ ?_)
  have w1 : cmpI .ne (rg I m G (m + 5) (nI g).toNatClampNeg) (Int32.ofInt 2) = true := by rw [show rg I m G (m + 5) (nI g).toNatClampNeg = nI 3 from (srt_at (by omega)).trans (so_g)]; decide
  refine And.intro (fun _ => ?_) (fun hb => absurd w1 hb)
  refine And.intro hM.c ⟨m + 5, hM.r8, ?_⟩
  refine Or.inr (And.intro ⟨(hM.a60 (a := m + 5) (by omega)).1, inb60 (a := 0) hM (by omega)⟩ ?_)
  refine And.intro hM.c ⟨m + 5, hM.r8, ?_⟩
  refine Or.inr (And.intro ⟨(hM.a60 (a := m + 5) (by omega)).1, inb60 (a := 0) hM (by omega)⟩ ?_)
  have w2 : cmpI .eq (rg I m G (m + 5) (nI g).toNatClampNeg) (rg I m G (m + 5) (nI k).toNatClampNeg) = true := by rw [show rg I m G (m + 5) (nI g).toNatClampNeg = nI 3 from (srt_at (by omega)).trans (so_g), show rg I m G (m + 5) (nI k).toNatClampNeg = nI 3 from (srt_at (by omega)).trans (so_k)]; decide
  refine And.intro (fun _ => ?_) (fun hb => absurd w2 hb)
  refine x_set0 (d := d) (p := p) (D := D) (h := h) (r := 2) hM rfl (by decide) (by have := hA.1.2.2.2.1.1; omega) (by omega) (fun G3 J3 q3 f3 => ?_)
  refine And.intro (fun hb => absurd hb (by decide)) (fun _ => ?_)
  refine x_loadE (d := d) (r := 3) (a := g) (k := 0) (v := vE p D h P0) hM rfl rfl rfl (by decide) (by omega) (by omega) hP0 (by omega) (fun G4 J4 q4 f4 => ?_)
  refine x_loadE (d := d) (r := 4) (a := k) (k := 0) (v := vE p D h Q0) hM rfl rfl rfl (by decide) (by omega) (by omega) hQ0 (by omega) (fun G5 J5 q5 f5 => ?_)
  refine And.intro (fun hb => absurd hb (by decide)) (fun _ => ?_)
  have q6 := ((f5 3 (by decide)).trans q4)
  refine m_isSame (d := d) (a := 3) (b := 4) hM rfl rfl (by decide) (by decide) hA.1.2.2.1 hA.1.2.2.2.1.2 q6 q5 (by omega) (fun z7 => ?_) (fun z7 => ?_)
  · refine And.intro (fun hb => absurd hb (by decide)) (fun _ => ?_)
    refine x_less (d := d) (r := 5) (a := 4) (b := 3) hM rfl rfl rfl (by decide) (by decide) (by decide) hA.1.1 hA.1.2.2.2.1.2 q5 q6 (by omega) (fun G8 J8 q8 f8 => ?_)
    refine x_add (d := d) (r := 0) (a := 5) (b := 5) hM (by decide) rfl rfl (by decide) (by decide) (by decide) hA.1.1 hA.1.2.2.2.1.2 q8 q8 (by omega) (fun G9 J9 q9 f9 => ?_)
    have q10 := ((f9 3 (by decide)).trans ((f8 3 (by decide)).trans q6))
    refine x_times (d := d) (r := 3) (a := 3) (b := 3) hM hA.1 rfl rfl rfl (by decide) (by decide) (by decide) q10 q10 (by omega) (fun G11 J11 q11 f11 => ?_)
    have q12 := ((f11 4 (by decide)).trans ((f9 4 (by decide)).trans ((f8 4 (by decide)).trans q5)))
    refine x_times (d := d) (r := 4) (a := 4) (b := 4) hM hA.1 rfl rfl rfl (by decide) (by decide) (by decide) q12 q12 (by omega) (fun G13 J13 q13 f13 => ?_)
    have q14 := ((f13 2 (by decide)).trans ((f11 2 (by decide)).trans ((f9 2 (by decide)).trans ((f8 2 (by decide)).trans ((f5 2 (by decide)).trans ((f4 2 (by decide)).trans q3))))))
    have q15 := ((f13 3 (by decide)).trans q11)
    refine x_add (d := d) (r := 2) (a := 2) (b := 3) hM rfl rfl rfl (by decide) (by decide) (by decide) hA.1.1 hA.1.2.2.2.1.2 q14 q15 (by omega) (fun G16 J16 q16 f16 => ?_)
    have q17 := ((f16 4 (by decide)).trans q13)
    refine x_less (d := d) (r := 2) (a := 2) (b := 4) hM rfl rfl rfl (by decide) (by decide) (by decide) hA.1.1 hA.1.2.2.2.1.2 q16 q17 (by omega) (fun G18 J18 q18 f18 => ?_)
    refine And.intro (fun hb => absurd hb (by decide)) (fun _ => ?_)
    refine x_loadE (d := d) (r := 3) (a := g) (k := 1) (v := vE p D h P1) hM rfl rfl (by decide) (by decide) (by omega) (by omega) hP1 (by omega) (fun G19 J19 q19 f19 => ?_)
    refine x_loadE (d := d) (r := 4) (a := k) (k := 1) (v := vE p D h Q1) hM rfl rfl (by decide) (by decide) (by omega) (by omega) hQ1 (by omega) (fun G20 J20 q20 f20 => ?_)
    refine And.intro (fun hb => absurd hb (by decide)) (fun _ => ?_)
    have q21 := ((f20 3 (by decide)).trans q19)
    refine m_isSame (d := d) (a := 3) (b := 4) hM rfl rfl (by decide) (by decide) hA.1.2.2.1 hA.1.2.2.2.1.2 q21 q20 (by omega) (fun z22 => ?_) (fun z22 => ?_)
    · refine And.intro (fun hb => absurd hb (by decide)) (fun _ => ?_)
      refine x_less (d := d) (r := 5) (a := 4) (b := 3) hM rfl rfl rfl (by decide) (by decide) (by decide) hA.1.1 hA.1.2.2.2.1.2 q20 q21 (by omega) (fun G23 J23 q23 f23 => ?_)
      refine x_add (d := d) (r := 1) (a := 5) (b := 5) hM (by decide) rfl rfl (by decide) (by decide) (by decide) hA.1.1 hA.1.2.2.2.1.2 q23 q23 (by omega) (fun G24 J24 q24 f24 => ?_)
      have q25 := ((f24 3 (by decide)).trans ((f23 3 (by decide)).trans q21))
      refine x_times (d := d) (r := 3) (a := 3) (b := 3) hM hA.1 rfl rfl rfl (by decide) (by decide) (by decide) q25 q25 (by omega) (fun G26 J26 q26 f26 => ?_)
      have q27 := ((f26 4 (by decide)).trans ((f24 4 (by decide)).trans ((f23 4 (by decide)).trans q20)))
      refine x_times (d := d) (r := 4) (a := 4) (b := 4) hM hA.1 rfl rfl rfl (by decide) (by decide) (by decide) q27 q27 (by omega) (fun G28 J28 q28 f28 => ?_)
      have q29 := ((f28 2 (by decide)).trans ((f26 2 (by decide)).trans ((f24 2 (by decide)).trans ((f23 2 (by decide)).trans ((f20 2 (by decide)).trans ((f19 2 (by decide)).trans q18))))))
      have q30 := ((f28 3 (by decide)).trans q26)
      refine x_add (d := d) (r := 2) (a := 2) (b := 3) hM rfl rfl rfl (by decide) (by decide) (by decide) hA.1.1 hA.1.2.2.2.1.2 q29 q30 (by omega) (fun G31 J31 q31 f31 => ?_)
      have q32 := ((f31 4 (by decide)).trans q28)
      refine x_less (d := d) (r := 2) (a := 2) (b := 4) hM rfl rfl rfl (by decide) (by decide) (by decide) hA.1.1 hA.1.2.2.2.1.2 q31 q32 (by omega) (fun G33 J33 q33 f33 => ?_)
      refine And.intro (fun _ => ?_) (fun hb => absurd (by decide) hb)
      refine And.intro (fun hb => absurd hb (by decide)) (fun _ => ?_)
      refine m_areOne (d := d) (s := g) (t := k) hM hA.1.2.2.1 hA.1.2.2.2.1.2 rfl rfl (by omega) (by omega) (so_g.trans so_k.symm) hP0 hP1 hP2 hQ0 hQ1 hQ2 (by omega) (fun z34 => ?_) (fun z34 => ?_)
      · refine And.intro (fun hb => absurd hb (by decide)) (fun _ => ?_)
        rw [show ccF p D h P0 P1 P2 Q0 Q1 Q2 1 = rzN (Int32.ofInt (-3)) D h from (if_pos ⟨z7, z22⟩).trans (if_pos z34.2.2)] at hp
        exact ⟨rfl, hp I G33 J33 (OutM.no (by decide) hA h17 FrX.refl)⟩
      · refine And.intro (fun _ => ?_) (fun hb => absurd (by decide) hb)
        rw [show ccF p D h P0 P1 P2 Q0 Q1 Q2 1 = rzN (Int32.ofInt (-4)) D h from (if_pos ⟨z7, z22⟩).trans (if_neg (fun w => z34 ⟨z7, z22, w⟩))] at hp
        exact ⟨rfl, hp I G33 J33 (OutM.no (by decide) hA h17 FrX.refl)⟩
    · refine And.intro (fun _ => ?_) (fun hb => absurd (by decide) hb)
      refine x_less (d := d) (r := 5) (a := 4) (b := 3) hM rfl rfl rfl (by decide) (by decide) (by decide) hA.1.1 hA.1.2.2.2.1.2 q20 q21 (by omega) (fun G35 J35 q35 f35 => ?_)
      refine x_add (d := d) (r := 1) (a := 5) (b := 5) hM (by decide) rfl rfl (by decide) (by decide) (by decide) hA.1.1 hA.1.2.2.2.1.2 q35 q35 (by omega) (fun G36 J36 q36 f36 => ?_)
      have q37 := ((f36 3 (by decide)).trans ((f35 3 (by decide)).trans q21))
      refine x_times (d := d) (r := 3) (a := 3) (b := 3) hM hA.1 rfl rfl rfl (by decide) (by decide) (by decide) q37 q37 (by omega) (fun G38 J38 q38 f38 => ?_)
      have q39 := ((f38 4 (by decide)).trans ((f36 4 (by decide)).trans ((f35 4 (by decide)).trans q20)))
      refine x_times (d := d) (r := 4) (a := 4) (b := 4) hM hA.1 rfl rfl rfl (by decide) (by decide) (by decide) q39 q39 (by omega) (fun G40 J40 q40 f40 => ?_)
      have q41 := ((f40 2 (by decide)).trans ((f38 2 (by decide)).trans ((f36 2 (by decide)).trans ((f35 2 (by decide)).trans ((f20 2 (by decide)).trans ((f19 2 (by decide)).trans q18))))))
      have q42 := ((f40 3 (by decide)).trans q38)
      refine x_add (d := d) (r := 2) (a := 2) (b := 3) hM rfl rfl rfl (by decide) (by decide) (by decide) hA.1.1 hA.1.2.2.2.1.2 q41 q42 (by omega) (fun G43 J43 q43 f43 => ?_)
      have q44 := ((f43 4 (by decide)).trans q40)
      refine x_less (d := d) (r := 2) (a := 2) (b := 4) hM rfl rfl rfl (by decide) (by decide) (by decide) hA.1.1 hA.1.2.2.2.1.2 q43 q44 (by omega) (fun G45 J45 q45 f45 => ?_)
      refine And.intro (fun _ => ?_) (fun hb => absurd (by decide) hb)
      refine And.intro (fun _ => ?_) (fun hb => absurd (by decide) hb)
      refine x_loadE (d := d) (r := 3) (a := g) (k := 2) (v := vE p D h P2) hM rfl rfl rfl (by decide) (by omega) (by omega) hP2 (by omega) (fun G46 J46 q46 f46 => ?_)
      refine x_loadE (d := d) (r := 4) (a := k) (k := 2) (v := vE p D h Q2) hM rfl rfl rfl (by decide) (by omega) (by omega) hQ2 (by omega) (fun G47 J47 q47 f47 => ?_)
      have q48 := ((f47 2 (by decide)).trans ((f46 2 (by decide)).trans q45))
      have q49 := ((f47 3 (by decide)).trans q46)
      refine x_less (d := d) (r := 2) (a := 2) (b := 3) hM rfl rfl rfl (by decide) (by decide) (by decide) hA.1.1 hA.1.2.2.2.1.2 q48 q49 (by omega) (fun G50 J50 q50 f50 => ?_)
      have q51 := ((f50 4 (by decide)).trans q47)
      refine x_add (d := d) (r := 2) (a := 2) (b := 4) hM rfl rfl rfl (by decide) (by decide) (by decide) hA.1.1 hA.1.2.2.2.1.2 q50 q51 (by omega) (fun G52 J52 q52 f52 => ?_)
      rw [show ((TI p D h).add ((TI p D h).sub ((TI p D h).sub ((TI p D h).add ((TI p D h).sub ((TI p D h).add ((TI p D h).ofNat 0).ofNat ((TI p D h).mul P0 P0)) ((TI p D h).mul Q0 Q0)) ((TI p D h).mul P1 P1)) ((TI p D h).mul Q1 Q1)) P2) Q2) = ((TI p D h).sub ((TI p D h).sub ((TI p D h).add ((TI p D h).mul P0 P0) ((TI p D h).mul P1 P1)) P2) ((TI p D h).sub ((TI p D h).add ((TI p D h).mul Q0 Q0) ((TI p D h).mul Q1 Q1)) Q2)) from @cr3 (TR p D h) (TI p D h) _ _ _ _ _ _] at q52
      have q53 := ((f52 0 (by decide)).trans ((f50 0 (by decide)).trans ((f47 0 (by decide)).trans ((f46 0 (by decide)).trans ((f45 0 (by decide)).trans ((f43 0 (by decide)).trans ((f40 0 (by decide)).trans ((f38 0 (by decide)).trans ((f36 0 (by decide)).trans ((f35 0 (by decide)).trans ((f20 0 (by decide)).trans ((f19 0 (by decide)).trans ((f18 0 (by decide)).trans ((f16 0 (by decide)).trans ((f13 0 (by decide)).trans ((f11 0 (by decide)).trans q9))))))))))))))))
      have q54 := ((f52 1 (by decide)).trans ((f50 1 (by decide)).trans ((f47 1 (by decide)).trans ((f46 1 (by decide)).trans ((f45 1 (by decide)).trans ((f43 1 (by decide)).trans ((f40 1 (by decide)).trans ((f38 1 (by decide)).trans q36))))))))
      refine M125 (d := d) hM hA q53 q54 q52 (by omega) (fun G55 J55 q55a q55b q55c f55 => ?_)
      have hA56 := hA.put (x := Int32.ofInt 2) (q := 16) (by decide) (by decide)
      refine M136_1 (d := d) (c := g) hM hA56 rfl rfl (by omega) q55a q55b q55c (fun j hj => (congrFun (u2_ne (f := I) (j := 16) (v := Int32.ofInt 2) (show m + 7 ≠ m by omega)) _).trans (hP0 j hj)) (fun j hj => (congrFun (u2_ne (f := I) (j := 16) (v := Int32.ofInt 2) (show m + 7 ≠ m by omega)) _).trans (hP1 j hj)) (fun j hj => (congrFun (u2_ne (f := I) (j := 16) (v := Int32.ofInt 2) (show m + 7 ≠ m by omega)) _).trans (hP2 j hj)) (by rw [u2_at, if_neg (by decide)]; exact h17) (by omega) (fun I9 G9 J9 o9 => ?_)
      rw [show ccF p D h P0 P1 P2 Q0 Q1 Q2 1 = mtF p D h ((TI p D h).mul ((TI p D h).add ((TI p D h).sub Q0 P0) ((TI p D h).sub Q0 P0)) (iv p D h (ldE p D h ((TI p D h).add ((TI p D h).sub Q0 P0) ((TI p D h).sub Q0 P0)) ((TI p D h).add ((TI p D h).sub Q1 P1) ((TI p D h).sub Q1 P1))))) ((TI p D h).mul ((TI p D h).add ((TI p D h).sub Q1 P1) ((TI p D h).sub Q1 P1)) (iv p D h (ldE p D h ((TI p D h).add ((TI p D h).sub Q0 P0) ((TI p D h).sub Q0 P0)) ((TI p D h).add ((TI p D h).sub Q1 P1) ((TI p D h).sub Q1 P1))))) ((TI p D h).mul ((TI p D h).sub ((TI p D h).sub ((TI p D h).add ((TI p D h).mul P0 P0) ((TI p D h).mul P1 P1)) P2) ((TI p D h).sub ((TI p D h).add ((TI p D h).mul Q0 Q0) ((TI p D h).mul Q1 Q1)) Q2)) (iv p D h (ldE p D h ((TI p D h).add ((TI p D h).sub Q0 P0) ((TI p D h).sub Q0 P0)) ((TI p D h).add ((TI p D h).sub Q1 P1) ((TI p D h).sub Q1 P1))))) P0 P1 P2 1 from if_neg (fun w => z22 w.2)] at hp
      exact ⟨rfl, hp I9 G9 J9 (OutM.from (FrX.refl.put (Or.inl rfl)) o9)⟩
  · refine And.intro (fun _ => ?_) (fun hb => absurd (by decide) hb)
    refine x_less (d := d) (r := 5) (a := 4) (b := 3) hM rfl rfl rfl (by decide) (by decide) (by decide) hA.1.1 hA.1.2.2.2.1.2 q5 q6 (by omega) (fun G57 J57 q57 f57 => ?_)
    refine x_add (d := d) (r := 0) (a := 5) (b := 5) hM (by decide) rfl rfl (by decide) (by decide) (by decide) hA.1.1 hA.1.2.2.2.1.2 q57 q57 (by omega) (fun G58 J58 q58 f58 => ?_)
    have q59 := ((f58 3 (by decide)).trans ((f57 3 (by decide)).trans q6))
    refine x_times (d := d) (r := 3) (a := 3) (b := 3) hM hA.1 rfl rfl rfl (by decide) (by decide) (by decide) q59 q59 (by omega) (fun G60 J60 q60 f60 => ?_)
    have q61 := ((f60 4 (by decide)).trans ((f58 4 (by decide)).trans ((f57 4 (by decide)).trans q5)))
    refine x_times (d := d) (r := 4) (a := 4) (b := 4) hM hA.1 rfl rfl rfl (by decide) (by decide) (by decide) q61 q61 (by omega) (fun G62 J62 q62 f62 => ?_)
    have q63 := ((f62 2 (by decide)).trans ((f60 2 (by decide)).trans ((f58 2 (by decide)).trans ((f57 2 (by decide)).trans ((f5 2 (by decide)).trans ((f4 2 (by decide)).trans q3))))))
    have q64 := ((f62 3 (by decide)).trans q60)
    refine x_add (d := d) (r := 2) (a := 2) (b := 3) hM rfl rfl rfl (by decide) (by decide) (by decide) hA.1.1 hA.1.2.2.2.1.2 q63 q64 (by omega) (fun G65 J65 q65 f65 => ?_)
    have q66 := ((f65 4 (by decide)).trans q62)
    refine x_less (d := d) (r := 2) (a := 2) (b := 4) hM rfl rfl rfl (by decide) (by decide) (by decide) hA.1.1 hA.1.2.2.2.1.2 q65 q66 (by omega) (fun G67 J67 q67 f67 => ?_)
    refine And.intro (fun hb => absurd hb (by decide)) (fun _ => ?_)
    refine x_loadE (d := d) (r := 3) (a := g) (k := 1) (v := vE p D h P1) hM rfl rfl (by decide) (by decide) (by omega) (by omega) hP1 (by omega) (fun G68 J68 q68 f68 => ?_)
    refine x_loadE (d := d) (r := 4) (a := k) (k := 1) (v := vE p D h Q1) hM rfl rfl (by decide) (by decide) (by omega) (by omega) hQ1 (by omega) (fun G69 J69 q69 f69 => ?_)
    refine And.intro (fun _ => ?_) (fun hb => absurd (by decide) hb)
    have q70 := ((f69 3 (by decide)).trans q68)
    refine x_less (d := d) (r := 5) (a := 4) (b := 3) hM rfl rfl rfl (by decide) (by decide) (by decide) hA.1.1 hA.1.2.2.2.1.2 q69 q70 (by omega) (fun G71 J71 q71 f71 => ?_)
    refine x_add (d := d) (r := 1) (a := 5) (b := 5) hM (by decide) rfl rfl (by decide) (by decide) (by decide) hA.1.1 hA.1.2.2.2.1.2 q71 q71 (by omega) (fun G72 J72 q72 f72 => ?_)
    have q73 := ((f72 3 (by decide)).trans ((f71 3 (by decide)).trans q70))
    refine x_times (d := d) (r := 3) (a := 3) (b := 3) hM hA.1 rfl rfl rfl (by decide) (by decide) (by decide) q73 q73 (by omega) (fun G74 J74 q74 f74 => ?_)
    have q75 := ((f74 4 (by decide)).trans ((f72 4 (by decide)).trans ((f71 4 (by decide)).trans q69)))
    refine x_times (d := d) (r := 4) (a := 4) (b := 4) hM hA.1 rfl rfl rfl (by decide) (by decide) (by decide) q75 q75 (by omega) (fun G76 J76 q76 f76 => ?_)
    have q77 := ((f76 2 (by decide)).trans ((f74 2 (by decide)).trans ((f72 2 (by decide)).trans ((f71 2 (by decide)).trans ((f69 2 (by decide)).trans ((f68 2 (by decide)).trans q67))))))
    have q78 := ((f76 3 (by decide)).trans q74)
    refine x_add (d := d) (r := 2) (a := 2) (b := 3) hM rfl rfl rfl (by decide) (by decide) (by decide) hA.1.1 hA.1.2.2.2.1.2 q77 q78 (by omega) (fun G79 J79 q79 f79 => ?_)
    have q80 := ((f79 4 (by decide)).trans q76)
    refine x_less (d := d) (r := 2) (a := 2) (b := 4) hM rfl rfl rfl (by decide) (by decide) (by decide) hA.1.1 hA.1.2.2.2.1.2 q79 q80 (by omega) (fun G81 J81 q81 f81 => ?_)
    refine And.intro (fun _ => ?_) (fun hb => absurd (by decide) hb)
    refine And.intro (fun _ => ?_) (fun hb => absurd (by decide) hb)
    refine x_loadE (d := d) (r := 3) (a := g) (k := 2) (v := vE p D h P2) hM rfl rfl rfl (by decide) (by omega) (by omega) hP2 (by omega) (fun G82 J82 q82 f82 => ?_)
    refine x_loadE (d := d) (r := 4) (a := k) (k := 2) (v := vE p D h Q2) hM rfl rfl rfl (by decide) (by omega) (by omega) hQ2 (by omega) (fun G83 J83 q83 f83 => ?_)
    have q84 := ((f83 2 (by decide)).trans ((f82 2 (by decide)).trans q81))
    have q85 := ((f83 3 (by decide)).trans q82)
    refine x_less (d := d) (r := 2) (a := 2) (b := 3) hM rfl rfl rfl (by decide) (by decide) (by decide) hA.1.1 hA.1.2.2.2.1.2 q84 q85 (by omega) (fun G86 J86 q86 f86 => ?_)
    have q87 := ((f86 4 (by decide)).trans q83)
    refine x_add (d := d) (r := 2) (a := 2) (b := 4) hM rfl rfl rfl (by decide) (by decide) (by decide) hA.1.1 hA.1.2.2.2.1.2 q86 q87 (by omega) (fun G88 J88 q88 f88 => ?_)
    rw [show ((TI p D h).add ((TI p D h).sub ((TI p D h).sub ((TI p D h).add ((TI p D h).sub ((TI p D h).add ((TI p D h).ofNat 0).ofNat ((TI p D h).mul P0 P0)) ((TI p D h).mul Q0 Q0)) ((TI p D h).mul P1 P1)) ((TI p D h).mul Q1 Q1)) P2) Q2) = ((TI p D h).sub ((TI p D h).sub ((TI p D h).add ((TI p D h).mul P0 P0) ((TI p D h).mul P1 P1)) P2) ((TI p D h).sub ((TI p D h).add ((TI p D h).mul Q0 Q0) ((TI p D h).mul Q1 Q1)) Q2)) from @cr3 (TR p D h) (TI p D h) _ _ _ _ _ _] at q88
    have q89 := ((f88 0 (by decide)).trans ((f86 0 (by decide)).trans ((f83 0 (by decide)).trans ((f82 0 (by decide)).trans ((f81 0 (by decide)).trans ((f79 0 (by decide)).trans ((f76 0 (by decide)).trans ((f74 0 (by decide)).trans ((f72 0 (by decide)).trans ((f71 0 (by decide)).trans ((f69 0 (by decide)).trans ((f68 0 (by decide)).trans ((f67 0 (by decide)).trans ((f65 0 (by decide)).trans ((f62 0 (by decide)).trans ((f60 0 (by decide)).trans q58))))))))))))))))
    have q90 := ((f88 1 (by decide)).trans ((f86 1 (by decide)).trans ((f83 1 (by decide)).trans ((f82 1 (by decide)).trans ((f81 1 (by decide)).trans ((f79 1 (by decide)).trans ((f76 1 (by decide)).trans ((f74 1 (by decide)).trans q72))))))))
    refine M125 (d := d) hM hA q89 q90 q88 (by omega) (fun G91 J91 q91a q91b q91c f91 => ?_)
    have hA92 := hA.put (x := Int32.ofInt 2) (q := 16) (by decide) (by decide)
    refine M136_1 (d := d) (c := g) hM hA92 rfl rfl (by omega) q91a q91b q91c (fun j hj => (congrFun (u2_ne (f := I) (j := 16) (v := Int32.ofInt 2) (show m + 7 ≠ m by omega)) _).trans (hP0 j hj)) (fun j hj => (congrFun (u2_ne (f := I) (j := 16) (v := Int32.ofInt 2) (show m + 7 ≠ m by omega)) _).trans (hP1 j hj)) (fun j hj => (congrFun (u2_ne (f := I) (j := 16) (v := Int32.ofInt 2) (show m + 7 ≠ m by omega)) _).trans (hP2 j hj)) (by rw [u2_at, if_neg (by decide)]; exact h17) (by omega) (fun I9 G9 J9 o9 => ?_)
    rw [show ccF p D h P0 P1 P2 Q0 Q1 Q2 1 = mtF p D h ((TI p D h).mul ((TI p D h).add ((TI p D h).sub Q0 P0) ((TI p D h).sub Q0 P0)) (iv p D h (ldE p D h ((TI p D h).add ((TI p D h).sub Q0 P0) ((TI p D h).sub Q0 P0)) ((TI p D h).add ((TI p D h).sub Q1 P1) ((TI p D h).sub Q1 P1))))) ((TI p D h).mul ((TI p D h).add ((TI p D h).sub Q1 P1) ((TI p D h).sub Q1 P1)) (iv p D h (ldE p D h ((TI p D h).add ((TI p D h).sub Q0 P0) ((TI p D h).sub Q0 P0)) ((TI p D h).add ((TI p D h).sub Q1 P1) ((TI p D h).sub Q1 P1))))) ((TI p D h).mul ((TI p D h).sub ((TI p D h).sub ((TI p D h).add ((TI p D h).mul P0 P0) ((TI p D h).mul P1 P1)) P2) ((TI p D h).sub ((TI p D h).add ((TI p D h).mul Q0 Q0) ((TI p D h).mul Q1 Q1)) Q2)) (iv p D h (ldE p D h ((TI p D h).add ((TI p D h).sub Q0 P0) ((TI p D h).sub Q0 P0)) ((TI p D h).add ((TI p D h).sub Q1 P1) ((TI p D h).sub Q1 P1))))) P0 P1 P2 1 from if_neg (fun w => z7 w.1)] at hp
    exact ⟨rfl, hp I9 G9 J9 (OutM.from (FrX.refl.put (Or.inl rfl)) o9)⟩
end N4
